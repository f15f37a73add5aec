/-! a quarter's cells and the model's row: the relation, step by step -/
def qu (τ : Nat → Nat → Int32) (c j : Nat) (x : Int32) : Nat → Nat → Int32 := va_up τ c (upd (τ c) j x)
theorem qu_up (σ : ts_S) (g c j : Nat) (x : Int32) : ts_up σ g c j x = va_up σ g (qu (σ g) c j x) := rfl
theorem qu_at (τ : Nat → Nat → Int32) (c j : Nat) (x : Int32) : qu τ c j x c j = x := by
  unfold qu; rw [up_at, upd_at]
theorem qu_ne (τ : Nat → Nat → Int32) {c j c' j' : Nat} (x : Int32) (h : ¬ (c' = c ∧ j' = j)) : qu τ c j x c' j' = τ c' j' := by
  unfold qu
  by_cases e : c' = c
  · subst e
    rw [up_at, upd_ne _ _ (fun e2 => h ⟨rfl, e2⟩)]
  · rw [up_ne _ _ e]
def rS (τ : Nat → Nat → Int32) (ρ : Nat → Int32) (i : Nat) : Prop := τ 2 i = ρ (sx i 0) ∧ τ 3 i = ρ (sx i 1) ∧ τ 4 i = ρ (sx i 2) ∧ τ 5 i = ρ (sx i 3) ∧ ∀ k, k < nK ρ i → τ 6 (5 * i + k) = ρ (sx i (4 + k))
def rP (τ : Nat → Nat → Int32) (ρ : Nat → Int32) (p : Nat) : Prop := τ 7 p = ρ (px p 0) ∧ τ 8 p = ρ (px p 1) ∧ τ 9 p = ρ (px p 2)
def r0 (τ : Nat → Nat → Int32) (ρ : Nat → Int32) : Prop := τ 0 2 = ρ 0 ∧ τ 0 4 = ρ 1 ∧ τ 0 3 = ρ 2 ∧ τ 0 10 = ρ 3 ∧ τ 0 1 = ρ 4
def RQ (τ : Nat → Nat → Int32) (ρ : Nat → Int32) : Prop := WR ρ ∧ r0 τ ρ ∧ (∀ i, i < 6 → τ 1 i = ρ (5 + i)) ∧ (∀ i, i < 10 → τ 10 i = ρ (11 + i)) ∧ (∀ i, i < nS ρ → rS τ ρ i) ∧ (∀ p, p < nP ρ → rP τ ρ p)
theorem rS_c {τ τ' : Nat → Nat → Int32} {ρ ρ' : Nat → Int32} {i : Nat} (hk : nK ρ i ≤ 5) (h1 : ∀ f, f < 9 → ρ' (sx i f) = ρ (sx i f)) (h2 : ∀ c, 2 ≤ c ∧ c ≤ 5 → τ' c i = τ c i) (h3 : ∀ k, k < 5 → τ' 6 (5 * i + k) = τ 6 (5 * i + k)) (r : rS τ ρ i) : rS τ' ρ' i := by
  obtain ⟨a, b, c, d, e⟩ := r
  have ek : nK ρ' i = nK ρ i := by unfold nK; rw [h1 3 (by omega)]
  refine ⟨by rw [h2 2 (by omega), h1 0 (by omega)]; exact a, by rw [h2 3 (by omega), h1 1 (by omega)]; exact b, by rw [h2 4 (by omega), h1 2 (by omega)]; exact c, by rw [h2 5 (by omega), h1 3 (by omega)]; exact d, fun k q => ?_⟩
  rw [ek] at q
  rw [h3 k (by omega), h1 (4 + k) (by omega)]
  exact e k q
theorem rP_c {τ τ' : Nat → Nat → Int32} {ρ ρ' : Nat → Int32} {p : Nat} (h1 : ∀ f, f < 3 → ρ' (px p f) = ρ (px p f)) (h2 : ∀ c, 7 ≤ c ∧ c ≤ 9 → τ' c p = τ c p) (r : rP τ ρ p) : rP τ' ρ' p := by
  obtain ⟨a, b, c⟩ := r
  exact ⟨by rw [h2 7 (by omega), h1 0 (by omega)]; exact a, by rw [h2 8 (by omega), h1 1 (by omega)]; exact b, by rw [h2 9 (by omega), h1 2 (by omega)]; exact c⟩
/-- one sill changes -/
theorem RQ_sill {τ τ' : Nat → Nat → Int32} {ρ ρ' : Nat → Int32} (R : RQ τ ρ) (W' : WR ρ') {i : Nat} (hi : i < nS ρ) (hs : ∀ a, ¬ (∃ f, f < 9 ∧ a = sx i f) → ρ' a = ρ a) (ht : ∀ c j, ¬ (2 ≤ c ∧ c ≤ 5 ∧ j = i) → ¬ (c = 6 ∧ 5 * i ≤ j ∧ j < 5 * i + 5) → τ' c j = τ c j) (hv : rS τ' ρ' i) : RQ τ' ρ' := by
  obtain ⟨W, ⟨a0, a1, a2, a3, a4⟩, hl, hp, hS, hP⟩ := R
  have ho : ∀ a, a < 21 ∨ 93 ≤ a → ρ' a = ρ a := fun a ha => hs a (fun ⟨f, hf, e⟩ => by unfold sx at e; have := WR_i8 W hi; omega)
  have eS : nS ρ' = nS ρ := by unfold nS; rw [ho 1 (by omega)]
  have eP : nP ρ' = nP ρ := by unfold nP; rw [ho 3 (by omega)]
  refine ⟨W', ⟨?_, ?_, ?_, ?_, ?_⟩, fun j hj => ?_, fun j hj => ?_, fun j hj => ?_, fun q hq => ?_⟩
  · rw [ht _ _ (by omega) (by omega), ho _ (by omega)]; exact a0
  · rw [ht _ _ (by omega) (by omega), ho _ (by omega)]; exact a1
  · rw [ht _ _ (by omega) (by omega), ho _ (by omega)]; exact a2
  · rw [ht _ _ (by omega) (by omega), ho _ (by omega)]; exact a3
  · rw [ht _ _ (by omega) (by omega), ho _ (by omega)]; exact a4
  · rw [ht _ _ (by omega) (by omega), ho _ (by omega)]; exact hl j hj
  · rw [ht _ _ (by omega) (by omega), ho _ (by omega)]; exact hp j hj
  · rw [eS] at hj
    by_cases e : j = i
    · subst e; exact hv
    · exact rS_c (okS_k (WR_okS W hj)).2 (fun f hf => hs _ (fun ⟨f', hf', e'⟩ => by unfold sx at e'; omega)) (fun c hc => ht _ _ (by omega) (by omega)) (fun k hk => ht _ _ (by omega) (by omega)) (hS j hj)
  · rw [eP] at hq
    exact rP_c (fun f hf => ho _ (by unfold px; omega)) (fun c hc => ht _ _ (by omega) (by omega)) (hP q hq)
/-- one of people changes -/
theorem RQ_pers {τ τ' : Nat → Nat → Int32} {ρ ρ' : Nat → Int32} (R : RQ τ ρ) (W' : WR ρ') {p : Nat} (hp0 : p < nP ρ) (hs : ∀ a, ¬ (∃ f, f < 3 ∧ a = px p f) → ρ' a = ρ a) (ht : ∀ c j, ¬ (7 ≤ c ∧ c ≤ 9 ∧ j = p) → τ' c j = τ c j) (hv : rP τ' ρ' p) : RQ τ' ρ' := by
  obtain ⟨W, ⟨a0, a1, a2, a3, a4⟩, hl, hp, hS, hP⟩ := R
  have ho : ∀ a, a < 93 → ρ' a = ρ a := fun a ha => hs a (fun ⟨f, hf, e⟩ => by unfold px at e; omega)
  have eS : nS ρ' = nS ρ := by unfold nS; rw [ho 1 (by omega)]
  have eP : nP ρ' = nP ρ := by unfold nP; rw [ho 3 (by omega)]
  refine ⟨W', ⟨?_, ?_, ?_, ?_, ?_⟩, fun j hj => ?_, fun j hj => ?_, fun j hj => ?_, fun q hq => ?_⟩
  · rw [ht _ _ (by omega), ho _ (by omega)]; exact a0
  · rw [ht _ _ (by omega), ho _ (by omega)]; exact a1
  · rw [ht _ _ (by omega), ho _ (by omega)]; exact a2
  · rw [ht _ _ (by omega), ho _ (by omega)]; exact a3
  · rw [ht _ _ (by omega), ho _ (by omega)]; exact a4
  · rw [ht _ _ (by omega), ho _ (by omega)]; exact hl j hj
  · rw [ht _ _ (by omega), ho _ (by omega)]; exact hp j hj
  · rw [eS] at hj
    exact rS_c (okS_k (WR_okS W hj)).2 (fun f hf => ho _ (by unfold sx; have := WR_i8 W hj; omega)) (fun c hc => ht _ _ (by omega)) (fun k hk => ht _ _ (by omega)) (hS j hj)
  · rw [eP] at hq
    by_cases e : q = p
    · subst e; exact hv
    · exact rP_c (fun f hf => hs _ (fun ⟨f', hf', e'⟩ => by unfold px at e'; omega)) (fun c hc => ht _ _ (by omega)) (hP q hq)
/-- one number of the head, the list or the spots changes -/
theorem RQ_head {τ : Nat → Nat → Int32} {ρ : Nat → Int32} (R : RQ τ ρ) {c j a : Nat} {v : Int32} (W' : WR (upd ρ a v)) (h : (c = 0 ∧ ((j = 2 ∧ a = 0) ∨ (j = 3 ∧ a = 2) ∨ (j = 1 ∧ a = 4))) ∨ (c = 1 ∧ j < 6 ∧ a = 5 + j) ∨ (c = 10 ∧ j < 10 ∧ a = 11 + j)) : RQ (qu τ c j v) (upd ρ a v) := by
  obtain ⟨W, ⟨a0, a1, a2, a3, a4⟩, hl, hp, hS, hP⟩ := R
  have n1 : ¬ 1 = a := by omega
  have n3 : ¬ 3 = a := by omega
  have eS : nS (upd ρ a v) = nS ρ := nS_upd n1
  have eP : nP (upd ρ a v) = nP ρ := nP_upd n3
  have put : ∀ c' j' a', τ c' j' = ρ a' → ((c' = c ∧ j' = j) ↔ a' = a) → qu τ c j v c' j' = upd ρ a v a' := by
    intro c' j' a' e1 e2
    by_cases q : a' = a
    · obtain ⟨q1, q2⟩ := e2.mpr q
      subst q1; subst q2; subst q
      rw [qu_at, upd_at]
    · rw [qu_ne _ _ (fun z => q (e2.mp z)), upd_ne _ _ q]; exact e1
  refine ⟨W', ⟨put _ _ _ a0 (by omega), put _ _ _ a1 (by omega), put _ _ _ a2 (by omega), put _ _ _ a3 (by omega), put _ _ _ a4 (by omega)⟩, fun i hi => put _ _ _ (hl i hi) (by omega), fun i hi => put _ _ _ (hp i hi) (by omega), fun i hi => ?_, fun q hq => ?_⟩
  · rw [eS] at hi
    exact rS_c (okS_k (WR_okS W hi)).2 (fun f hf => upd_ne _ _ (by unfold sx; omega)) (fun c hc => qu_ne _ _ (by omega)) (fun k hk => qu_ne _ _ (by omega)) (hS i hi)
  · rw [eP] at hq
    exact rP_c (fun f hf => upd_ne _ _ (by unfold px; omega)) (fun c hc => qu_ne _ _ (by omega)) (hP q hq)
theorem RQ_px {τ : Nat → Nat → Int32} {ρ : Nat → Int32} (R : RQ τ ρ) {p f : Nat} (hp : p < nP ρ) (hf : f < 3) {v : Int32} (W' : WR (upd ρ (px p f) v)) : RQ (qu τ (7 + f) p v) (upd ρ (px p f) v) := by
  refine RQ_pers R W' hp (fun a ha => upd_ne _ _ (fun e => ha ⟨f, hf, e⟩)) (fun c j h => qu_ne _ _ (by omega)) ?_
  obtain ⟨b0, b1, b2⟩ := R.2.2.2.2.2 p hp
  rcases (show f = 0 ∨ f = 1 ∨ f = 2 by omega) with rfl | rfl | rfl
  · exact ⟨by rw [qu_at, upd_at], by rw [qu_ne _ _ (by omega), upd_ne _ _ (by unfold px; omega)]; exact b1, by rw [qu_ne _ _ (by omega), upd_ne _ _ (by unfold px; omega)]; exact b2⟩
  · exact ⟨by rw [qu_ne _ _ (by omega), upd_ne _ _ (by unfold px; omega)]; exact b0, by rw [qu_at, upd_at], by rw [qu_ne _ _ (by omega), upd_ne _ _ (by unfold px; omega)]; exact b2⟩
  · exact ⟨by rw [qu_ne _ _ (by omega), upd_ne _ _ (by unfold px; omega)]; exact b0, by rw [qu_ne _ _ (by omega), upd_ne _ _ (by unfold px; omega)]; exact b1, by rw [qu_at, upd_at]⟩
theorem RQ_sx {τ : Nat → Nat → Int32} {ρ : Nat → Int32} (R : RQ τ ρ) {i f : Nat} (hi : i < nS ρ) (hf : f < 3) {v : Int32} (W' : WR (upd ρ (sx i f) v)) : RQ (qu τ (2 + f) i v) (upd ρ (sx i f) v) := by
  refine RQ_sill R W' hi (fun a ha => upd_ne _ _ (fun e => ha ⟨f, by omega, e⟩)) (fun c j h h2 => qu_ne _ _ (by omega)) ?_
  obtain ⟨b0, b1, b2, b3, b4⟩ := R.2.2.2.2.1 i hi
  have eK : nK (upd ρ (sx i f) v) i = nK ρ i := nK_upd (by unfold sx; omega)
  have z : ∀ k, k < nK (upd ρ (sx i f) v) i → qu τ (2 + f) i v 6 (5 * i + k) = upd ρ (sx i f) v (sx i (4 + k)) := fun k hk => by
    rw [eK] at hk
    rw [qu_ne _ _ (by omega), upd_ne _ _ (by unfold sx; omega)]; exact b4 k hk
  have y : qu τ (2 + f) i v 5 i = upd ρ (sx i f) v (sx i 3) := by rw [qu_ne _ _ (by omega), upd_ne _ _ (by unfold sx; omega)]; exact b3
  rcases (show f = 0 ∨ f = 1 ∨ f = 2 by omega) with rfl | rfl | rfl
  · exact ⟨by rw [qu_at, upd_at], by rw [qu_ne _ _ (by omega), upd_ne _ _ (by unfold sx; omega)]; exact b1, by rw [qu_ne _ _ (by omega), upd_ne _ _ (by unfold sx; omega)]; exact b2, y, z⟩
  · exact ⟨by rw [qu_ne _ _ (by omega), upd_ne _ _ (by unfold sx; omega)]; exact b0, by rw [qu_at, upd_at], by rw [qu_ne _ _ (by omega), upd_ne _ _ (by unfold sx; omega)]; exact b2, y, z⟩
  · exact ⟨by rw [qu_ne _ _ (by omega), upd_ne _ _ (by unfold sx; omega)]; exact b0, by rw [qu_ne _ _ (by omega), upd_ne _ _ (by unfold sx; omega)]; exact b1, by rw [qu_at, upd_at], y, z⟩
theorem RQ_lay {τ : Nat → Nat → Int32} {ρ : Nat → Int32} (R : RQ τ ρ) {i w : Nat} (hi : i < nS ρ) (hm : nK ρ i < 5) (hw : w < 12) : RQ (qu (qu τ 6 (5 * i + nK ρ i) (nI w)) 5 i (τ 5 i + nI 1)) (S_lay ρ i (nI w)) := by
  have W := R.1
  have h3 := (okS_k (WR_okS W hi)).1
  have eK : nK (S_lay ρ i (nI w)) i = nK ρ i + 1 := by
    show (S_lay ρ i (nI w) (sx i 3)).toNatClampNeg = _
    rw [S_lay, upd_at, h3, nI_add, nI_clamp (by omega)]
  obtain ⟨b0, b1, b2, b3, b4⟩ := R.2.2.2.2.1 i hi
  refine RQ_sill R (WR_lay W hi hm hw) hi (fun a ha => ?_) (fun c j h h2 => by rw [qu_ne _ _ (by omega), qu_ne _ _ (by omega)]) ?_
  · unfold S_lay
    rw [upd_ne _ _ (fun e => ha ⟨3, by omega, e⟩), upd_ne _ _ (fun e => ha ⟨4 + nK ρ i, by omega, e⟩)]
  · have o : ∀ f, f < 3 → S_lay ρ i (nI w) (sx i f) = ρ (sx i f) := fun f hf => by
      unfold S_lay
      rw [upd_ne _ _ (by unfold sx; omega), upd_ne _ _ (by unfold sx; omega)]
    refine ⟨by rw [o 0 (by omega), qu_ne _ _ (by omega), qu_ne _ _ (by omega)]; exact b0, by rw [o 1 (by omega), qu_ne _ _ (by omega), qu_ne _ _ (by omega)]; exact b1, by rw [o 2 (by omega), qu_ne _ _ (by omega), qu_ne _ _ (by omega)]; exact b2, ?_, fun k hk => ?_⟩
    · rw [qu_at, S_lay, upd_at, b3]
    · rw [eK] at hk
      rw [qu_ne _ _ (by omega), S_lay, upd_ne _ _ (by unfold sx; omega)]
      by_cases e : k = nK ρ i
      · subst e; rw [qu_at, upd_at]
      · rw [qu_ne _ _ (by omega), upd_ne _ _ (by unfold sx; omega)]; exact b4 k (by omega)
/-- kept words step up in the component's row -/
def q_sh (f : Nat → Int32) (b j t : Nat) : Nat → Int32 := fun a => if b + j ≤ a ∧ a < b + j + t then f (a + 1) else f a
theorem q_sh_0 (f : Nat → Int32) (b j : Nat) : q_sh f b j 0 = f := by
  funext a
  unfold q_sh
  rw [if_neg (by omega)]
theorem q_sh_s (f : Nat → Int32) (b j t : Nat) : upd (q_sh f b j t) (b + (j + t)) (f (b + (j + t) + 1)) = q_sh f b j (t + 1) := by
  funext a
  unfold upd q_sh
  by_cases h : a = b + (j + t)
  · rw [if_pos h, if_pos (by omega), h]
  · rw [if_neg h]
    by_cases h2 : b + j ≤ a ∧ a < b + j + t
    · rw [if_pos h2, if_pos (by omega)]
    · rw [if_neg h2, if_neg (by omega)]
theorem q_sh_out (f : Nat → Int32) {b j t a : Nat} (h : a < b + j ∨ b + j + t ≤ a) : q_sh f b j t a = f a := by
  unfold q_sh
  rw [if_neg (by omega)]
theorem RQ_pop {τ : Nat → Nat → Int32} {ρ : Nat → Int32} (R : RQ τ ρ) {i j : Nat} (hi : i < nS ρ) (hj : j < nK ρ i) : RQ (qu (va_up τ 6 (q_sh (τ 6) (5 * i) j (nK ρ i - 1 - j))) 5 i (τ 5 i - nI 1)) (upd (S_sh ρ i j (nK ρ i - 1 - j)) (sx i 3) (ρ (sx i 3) - nI 1)) := by
  have W := R.1
  have hok := okS_k (WR_okS W hi)
  have h3 := hok.1
  obtain ⟨m, hm⟩ : ∃ m, nK ρ i = m + 1 := ⟨nK ρ i - 1, by omega⟩
  have e1 : ρ (sx i 3) - nI 1 = nI m := by rw [h3, hm, nI_m1']
  obtain ⟨b0, b1, b2, b3, b4⟩ := R.2.2.2.2.1 i hi
  have eK : nK (upd (S_sh ρ i j (nK ρ i - 1 - j)) (sx i 3) (ρ (sx i 3) - nI 1)) i = m := by
    unfold nK
    rw [upd_at, e1, nI_clamp (by omega)]
  refine RQ_sill R (WR_pop W hi hj) hi (fun a ha => ?_) (fun c k h h2 => ?_) ?_
  · rw [upd_ne _ _ (fun e => ha ⟨3, by omega, e⟩)]
    unfold S_sh
    rw [if_neg]
    intro q
    refine ha ⟨a - (21 + 9 * i), ?_, ?_⟩
    · unfold sx at q; omega
    · unfold sx at q ⊢; omega
  · rw [qu_ne _ _ (by omega)]
    by_cases e : c = 6
    · subst e
      rw [up_at, q_sh_out _ (by omega)]
    · rw [up_ne _ _ e]
  · have o : ∀ f, f < 3 → upd (S_sh ρ i j (nK ρ i - 1 - j)) (sx i 3) (ρ (sx i 3) - nI 1) (sx i f) = ρ (sx i f) := fun f hf => by
      rw [upd_ne _ _ (by unfold sx; omega), S_sh_out _ (by unfold sx; omega)]
    refine ⟨by rw [o 0 (by omega), qu_ne _ _ (by omega), up_ne _ _ (by omega)]; exact b0, by rw [o 1 (by omega), qu_ne _ _ (by omega), up_ne _ _ (by omega)]; exact b1, by rw [o 2 (by omega), qu_ne _ _ (by omega), up_ne _ _ (by omega)]; exact b2, by rw [qu_at, upd_at, b3], fun k hk => ?_⟩
    rw [eK] at hk
    rw [qu_ne _ _ (by omega), up_at, upd_ne _ _ (by unfold sx; omega)]
    unfold q_sh S_sh
    by_cases q : 5 * i + j ≤ 5 * i + k ∧ 5 * i + k < 5 * i + j + (nK ρ i - 1 - j)
    · rw [if_pos q, if_pos (by unfold sx; omega)]
      rw [show sx i (4 + k) + 1 = sx i (4 + (k + 1)) by unfold sx; omega]
      exact b4 (k + 1) (by omega)
    · rw [if_neg q, if_neg (by unfold sx; omega)]
      exact b4 k (by omega)
