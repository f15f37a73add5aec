/-! rows that are well made; days of the model -/
def wS (ρ : Nat → Int32) (i : Nat) : Prop := (∃ k, k < 7 ∧ ρ (sx i 0) = nI k) ∧ (∃ w, w ≤ 9999 ∧ ρ (sx i 1) = nI w) ∧ (∃ m, m < 2 ∧ ρ (sx i 2) = nI m) ∧ (∃ m, m ≤ 5 ∧ ρ (sx i 3) = nI m) ∧ ∀ k, k < nK ρ i → ∃ w, w < 12 ∧ ρ (sx i (4 + k)) = nI w
def wP (ρ : Nat → Int32) (p : Nat) : Prop := (∃ h, h < 4096 ∧ ρ (px p 0) = nI h) ∧ (ρ (px p 1) = -1 ∨ ∃ s, s < nS ρ ∧ ρ (px p 1) = nI s) ∧ (∃ c, c ≤ 9999 ∧ ρ (px p 2) = nI c)
def WR (ρ : Nat → Int32) : Prop := (∃ d, d ≤ 99999 ∧ ρ 0 = nI d) ∧ (ρ 1 = nI (nS ρ) ∧ nS ρ ≤ 8) ∧ (ρ 3 = nI (nP ρ) ∧ nP ρ ≤ 6) ∧ (∃ m, m ≤ 99999 ∧ ρ 4 = nI m) ∧
  (∀ i, i < 6 → ∃ p s, p < 6 ∧ s < 8 ∧ ρ (5 + i) = nI (10 * p + s)) ∧ (∀ i, i < 10 → ρ (11 + i) = -1 ∨ ∃ s, s < nS ρ ∧ ρ (11 + i) = nI s) ∧
  (∀ i, i < nS ρ → wS ρ i) ∧ (∀ p, p < nP ρ → wP ρ p)
theorem wS_c {ρ ρ' : Nat → Int32} {i : Nat} (h : ∀ f, f < 9 → ρ' (sx i f) = ρ (sx i f)) (w : wS ρ i) : wS ρ' i := by
  obtain ⟨h0, h1, h2, h3, h4⟩ := w
  have hk : nK ρ' i = nK ρ i := by unfold nK; rw [h 3 (by omega)]
  refine ⟨by rw [h 0 (by omega)]; exact h0, by rw [h 1 (by omega)]; exact h1, by rw [h 2 (by omega)]; exact h2, by rw [h 3 (by omega)]; exact h3, fun k q => ?_⟩
  rw [hk] at q
  have : nK ρ i ≤ 5 := by
    obtain ⟨m, hm, e⟩ := h3
    unfold nK
    rw [e, nI_clamp (by omega)]; exact hm
  rw [h (4 + k) (by omega)]
  exact h4 k q
theorem wP_c {ρ ρ' : Nat → Int32} {p : Nat} (h : ∀ f, f < 3 → ρ' (px p f) = ρ (px p f)) (hs : ρ' 1 = ρ 1) (w : wP ρ p) : wP ρ' p := by
  obtain ⟨h0, h1, h2⟩ := w
  have hk : nS ρ' = nS ρ := by unfold nS; rw [hs]
  refine ⟨by rw [h 0 (by omega)]; exact h0, by rw [h 1 (by omega), hk]; exact h1, by rw [h 2 (by omega)]; exact h2⟩
theorem WR_sill {ρ ρ' : Nat → Int32} (W : WR ρ) {i : Nat} (hi : i < nS ρ) (hs : ∀ a, ¬ (∃ f, f < 9 ∧ a = sx i f) → ρ' a = ρ a) (hv : wS ρ' i) : WR ρ' := by
  obtain ⟨h0, h1, h2, h3, h4, h5, h6, h7⟩ := W
  have ho : ∀ a, a < 21 ∨ 93 ≤ a → ρ' a = ρ a := fun a ha => hs a (fun ⟨f, hf, e⟩ => by unfold sx at e; omega)
  have eS : nS ρ' = nS ρ := by unfold nS; rw [ho 1 (by omega)]
  have eP : nP ρ' = nP ρ := by unfold nP; rw [ho 3 (by omega)]
  refine ⟨by rw [ho 0 (by omega)]; exact h0, by rw [eS, ho 1 (by omega)]; exact h1, by rw [eP, ho 3 (by omega)]; exact h2, by rw [ho 4 (by omega)]; exact h3, fun j hj => by rw [ho _ (by omega)]; exact h4 j hj, fun j hj => by rw [eS, ho _ (by omega)]; exact h5 j hj, fun j hj => ?_, fun p hp => ?_⟩
  · rw [eS] at hj
    by_cases e : j = i
    · subst e; exact hv
    · exact wS_c (fun f hf => hs _ (fun ⟨f', hf', e'⟩ => by unfold sx at e'; omega)) (h6 j hj)
  · rw [eP] at hp
    exact wP_c (fun f hf => ho _ (by unfold px; omega)) (ho 1 (by omega)) (h7 p hp)
theorem WR_pers {ρ ρ' : Nat → Int32} (W : WR ρ) {p : Nat} (hp : p < nP ρ) (hs : ∀ a, ¬ (∃ f, f < 3 ∧ a = px p f) → ρ' a = ρ a) (hv : wP ρ' p) : WR ρ' := by
  obtain ⟨h0, h1, h2, h3, h4, h5, h6, h7⟩ := W
  have ho : ∀ a, a < 93 → ρ' a = ρ a := fun a ha => hs a (fun ⟨f, hf, e⟩ => by unfold px at e; omega)
  have eS : nS ρ' = nS ρ := by unfold nS; rw [ho 1 (by omega)]
  have eP : nP ρ' = nP ρ := by unfold nP; rw [ho 3 (by omega)]
  have h18 := h1.2
  refine ⟨by rw [ho 0 (by omega)]; exact h0, by rw [eS, ho 1 (by omega)]; exact h1, by rw [eP, ho 3 (by omega)]; exact h2, by rw [ho 4 (by omega)]; exact h3, fun j hj => by rw [ho _ (by omega)]; exact h4 j hj, fun j hj => by rw [eS, ho _ (by omega)]; exact h5 j hj, fun j hj => ?_, fun q hq => ?_⟩
  · rw [eS] at hj
    exact wS_c (fun f hf => ho _ (by unfold sx; omega)) (h6 j hj)
  · rw [eP] at hq
    by_cases e : q = p
    · subst e; exact hv
    · exact wP_c (fun f hf => hs _ (fun ⟨f', hf', e'⟩ => by unfold px at e'; omega)) (ho 1 (by omega)) (h7 q hq)
/-- one number of the head of the row (day, draw, lost), of the list or of the spots -/
theorem WR_head {ρ : Nat → Int32} (W : WR ρ) {a : Nat} {v : Int32} (ha : a < 21) (n1 : ¬ a = 1) (n3 : ¬ a = 3) (v0 : a = 0 → ∃ d, d ≤ 99999 ∧ v = nI d) (v4 : a = 4 → ∃ d, d ≤ 99999 ∧ v = nI d) (vl : 5 ≤ a ∧ a < 11 → ∃ p s, p < 6 ∧ s < 8 ∧ v = nI (10 * p + s)) (vs : 11 ≤ a → v = -1 ∨ ∃ s, s < nS ρ ∧ v = nI s) : WR (upd ρ a v) := by
  obtain ⟨h0, h1, h2, h3, h4, h5, h6, h7⟩ := W
  have eS : nS (upd ρ a v) = nS ρ := by unfold nS; rw [upd_ne _ _ (fun e => n1 e.symm)]
  have eP : nP (upd ρ a v) = nP ρ := by unfold nP; rw [upd_ne _ _ (fun e => n3 e.symm)]
  refine ⟨?_, by rw [eS, upd_ne _ _ (fun e => n1 e.symm)]; exact h1, by rw [eP, upd_ne _ _ (fun e => n3 e.symm)]; exact h2, ?_, fun j hj => ?_, fun j hj => ?_, fun j hj => ?_, fun p hp => ?_⟩
  · by_cases e : 0 = a
    · subst e; rw [upd_at]; exact v0 rfl
    · rw [upd_ne _ _ e]; exact h0
  · by_cases e : 4 = a
    · subst e; rw [upd_at]; exact v4 rfl
    · rw [upd_ne _ _ e]; exact h3
  · by_cases e : 5 + j = a
    · subst e; rw [upd_at]; exact vl (by omega)
    · rw [upd_ne _ _ e]; exact h4 j hj
  · rw [eS]
    by_cases e : 11 + j = a
    · subst e; rw [upd_at]; exact vs (by omega)
    · rw [upd_ne _ _ e]; exact h5 j hj
  · rw [eS] at hj
    exact wS_c (fun f hf => upd_ne _ _ (by unfold sx; omega)) (h6 j hj)
  · rw [eP] at hp
    exact wP_c (fun f hf => upd_ne _ _ (by unfold px; omega)) (upd_ne _ _ (fun e => n1 e.symm)) (h7 p hp)
theorem S_mo_n {v h : Nat} (hv : v ≤ h) (hh : h < 2 ^ 30) : ∃ w, w ≤ h ∧ S_mo (nI v) (nI h) = nI w := by
  unfold S_mo
  rw [nI_add]
  by_cases q : nI (v + 1) < nI h
  · rw [if_pos q]
    have := (nI_ltI (by omega) (by omega)).mp q
    exact ⟨v + 1, by omega, rfl⟩
  · rw [if_neg q]; exact ⟨h, by omega, rfl⟩
theorem WR_S {ρ : Nat → Int32} (W : WR ρ) {i : Nat} (hi : i < nS ρ) : wS ρ i := W.2.2.2.2.2.2.1 i hi
theorem WR_P {ρ : Nat → Int32} (W : WR ρ) {p : Nat} (hp : p < nP ρ) : wP ρ p := W.2.2.2.2.2.2.2 p hp
theorem WR_okS {ρ : Nat → Int32} (W : WR ρ) {i : Nat} (hi : i < nS ρ) : okS ρ i := ⟨by have := W.2.1.2; omega, (WR_S W hi).2.2.2.1⟩
theorem WR_i8 {ρ : Nat → Int32} (W : WR ρ) {i : Nat} (hi : i < nS ρ) : i < 8 := by have := W.2.1.2; omega
theorem WR_p6 {ρ : Nat → Int32} (W : WR ρ) {p : Nat} (hp : p < nP ρ) : p < 6 := by have := W.2.2.1.2; omega
/-- a person's IN -/
theorem WR_in {ρ : Nat → Int32} (W : WR ρ) {p : Nat} (hp : p < nP ρ) {v : Int32} (hv : v = -1 ∨ ∃ s, s < nS ρ ∧ v = nI s) : WR (upd ρ (px p 1) v) := by
  have eS : nS (upd ρ (px p 1) v) = nS ρ := by unfold nS; rw [upd_ne _ _ (by unfold px; omega)]
  refine WR_pers W hp (fun a ha => upd_ne _ _ (fun e => ha ⟨1, by omega, e⟩)) ?_
  obtain ⟨h0, h1, h2⟩ := WR_P W hp
  refine ⟨by rw [upd_ne _ _ (by unfold px; omega)]; exact h0, by rw [upd_at, eS]; exact hv, by rw [upd_ne _ _ (by unfold px; omega)]; exact h2⟩
theorem WR_has {ρ : Nat → Int32} (W : WR ρ) {p : Nat} (hp : p < nP ρ) {v : Int32} (hv : ∃ h, h < 4096 ∧ v = nI h) : WR (upd ρ (px p 0) v) := by
  have eS : nS (upd ρ (px p 0) v) = nS ρ := by unfold nS; rw [upd_ne _ _ (by unfold px; omega)]
  refine WR_pers W hp (fun a ha => upd_ne _ _ (fun e => ha ⟨0, by omega, e⟩)) ?_
  obtain ⟨h0, h1, h2⟩ := WR_P W hp
  refine ⟨by rw [upd_at]; exact hv, by rw [upd_ne _ _ (by unfold px; omega), eS]; exact h1, by rw [upd_ne _ _ (by unfold px; omega)]; exact h2⟩
theorem WR_crossed {ρ : Nat → Int32} (W : WR ρ) {p : Nat} (hp : p < nP ρ) {v : Int32} (hv : ∃ h, h ≤ 9999 ∧ v = nI h) : WR (upd ρ (px p 2) v) := by
  have eS : nS (upd ρ (px p 2) v) = nS ρ := by unfold nS; rw [upd_ne _ _ (by unfold px; omega)]
  refine WR_pers W hp (fun a ha => upd_ne _ _ (fun e => ha ⟨2, by omega, e⟩)) ?_
  obtain ⟨h0, h1, h2⟩ := WR_P W hp
  refine ⟨by rw [upd_ne _ _ (by unfold px; omega)]; exact h0, by rw [upd_ne _ _ (by unfold px; omega), eS]; exact h1, by rw [upd_at]; exact hv⟩
/-- a sill's kind, wear, mended -/
theorem WR_sf {ρ : Nat → Int32} (W : WR ρ) {i f : Nat} (hi : i < nS ρ) (hf : f < 3) {v : Int32} (h0 : f = 0 → ∃ k, k < 7 ∧ v = nI k) (h1 : f = 1 → ∃ k, k ≤ 9999 ∧ v = nI k) (h2 : f = 2 → ∃ k, k < 2 ∧ v = nI k) : WR (upd ρ (sx i f) v) := by
  have eK : nK (upd ρ (sx i f) v) i = nK ρ i := nK_upd (by unfold sx; omega)
  refine WR_sill W hi (fun a ha => upd_ne _ _ (fun e => ha ⟨f, by omega, e⟩)) ?_
  obtain ⟨g0, g1, g2, g3, g4⟩ := WR_S W hi
  refine ⟨?_, ?_, ?_, by rw [upd_ne _ _ (by unfold sx; omega)]; exact g3, fun k hk => by rw [eK] at hk; rw [upd_ne _ _ (by unfold sx; omega)]; exact g4 k hk⟩
  · by_cases e : f = 0
    · subst e; rw [upd_at]; exact h0 rfl
    · rw [upd_ne _ _ (by unfold sx; omega)]; exact g0
  · by_cases e : f = 1
    · subst e; rw [upd_at]; exact h1 rfl
    · rw [upd_ne _ _ (by unfold sx; omega)]; exact g1
  · by_cases e : f = 2
    · subst e; rw [upd_at]; exact h2 rfl
    · rw [upd_ne _ _ (by unfold sx; omega)]; exact g2
theorem WR_lay {ρ : Nat → Int32} (W : WR ρ) {i w : Nat} (hi : i < nS ρ) (hm : nK ρ i < 5) (hw : w < 12) : WR (S_lay ρ i (nI w)) := by
  have h3 := (okS_k (WR_okS W hi)).1
  have eK : nK (S_lay ρ i (nI w)) i = nK ρ i + 1 := by
    show (S_lay ρ i (nI w) (sx i 3)).toNatClampNeg = _
    rw [S_lay, upd_at, h3, nI_add, nI_clamp (by omega)]
  obtain ⟨g0, g1, g2, g3, g4⟩ := WR_S W hi
  refine WR_sill W hi (fun a ha => ?_) ?_
  · unfold S_lay
    rw [upd_ne _ _ (fun e => ha ⟨3, by omega, e⟩), upd_ne _ _ (fun e => ha ⟨4 + nK ρ i, by omega, e⟩)]
  · have o : ∀ f, f < 3 → S_lay ρ i (nI w) (sx i f) = ρ (sx i f) := fun f hf => by
      unfold S_lay
      rw [upd_ne _ _ (by unfold sx; omega), upd_ne _ _ (by unfold sx; omega)]
    refine ⟨by rw [o 0 (by omega)]; exact g0, by rw [o 1 (by omega)]; exact g1, by rw [o 2 (by omega)]; exact g2, ?_, fun k hk => ?_⟩
    · unfold S_lay
      rw [upd_at, h3, nI_add]
      exact ⟨nK ρ i + 1, by omega, rfl⟩
    · rw [eK] at hk
      unfold S_lay
      rw [upd_ne _ _ (by unfold sx; omega)]
      by_cases e : k = nK ρ i
      · subst e; rw [upd_at]; exact ⟨w, hw, rfl⟩
      · rw [upd_ne _ _ (by unfold sx; omega)]; exact g4 k (by omega)
/-- a word taken out of the row -/
theorem WR_pop {ρ : Nat → Int32} (W : WR ρ) {i j : Nat} (hi : i < nS ρ) (hj : j < nK ρ i) : WR (upd (S_sh ρ i j (nK ρ i - 1 - j)) (sx i 3) (ρ (sx i 3) - nI 1)) := by
  have hok := okS_k (WR_okS W hi)
  have h3 := hok.1
  obtain ⟨m, hm⟩ : ∃ m, nK ρ i = m + 1 := ⟨nK ρ i - 1, by omega⟩
  have e1 : ρ (sx i 3) - nI 1 = nI m := by rw [h3, hm, nI_m1']
  rw [e1]
  have eK : nK (upd (S_sh ρ i j (nK ρ i - 1 - j)) (sx i 3) (nI m)) i = m := by
    unfold nK
    rw [upd_at, nI_clamp (by omega)]
  obtain ⟨g0, g1, g2, g3, g4⟩ := WR_S W hi
  refine WR_sill W hi (fun a ha => ?_) ?_
  · rw [upd_ne _ _ (fun e => ha ⟨3, by omega, e⟩)]
    unfold S_sh
    rw [if_neg]
    intro q
    refine ha ⟨a - (21 + 9 * i), ?_, ?_⟩
    · unfold sx at q; omega
    · unfold sx at q ⊢; omega
  · have o : ∀ f, f < 3 → upd (S_sh ρ i j (nK ρ i - 1 - j)) (sx i 3) (nI m) (sx i f) = ρ (sx i f) := fun f hf => by
      rw [upd_ne _ _ (by unfold sx; omega), S_sh_out _ (by unfold sx; omega)]
    refine ⟨by rw [o 0 (by omega)]; exact g0, by rw [o 1 (by omega)]; exact g1, by rw [o 2 (by omega)]; exact g2, ?_, fun k hk => ?_⟩
    · rw [upd_at]; exact ⟨m, by omega, rfl⟩
    · rw [eK] at hk
      rw [upd_ne _ _ (by unfold sx; omega)]
      unfold S_sh
      split
      · have := g4 (k + 1) (by omega)
        rw [show sx i (4 + k) + 1 = sx i (4 + (k + 1)) by unfold sx; omega]
        exact this
      · exact g4 k (by omega)
/-! a crossing keeps rows well made -/
theorem has_and {h w : Nat} (hh : h < 4096) (hw : w < 12) : ∃ k, k < 4096 ∧ nI h &&& ((nI 1 <<< (nI w &&& nI 31)) ^^^ (-1)) = nI k := by
  have e : ∀ w, w < 12 → ∃ m : Nat, m < 2 ^ 32 ∧ ((nI 1 <<< (nI w &&& nI 31)) ^^^ (-1)).toBitVec.toNat = m := fun w _ => ⟨_, BitVec.isLt _, rfl⟩
  have q : (nI h &&& ((nI 1 <<< (nI w &&& nI 31)) ^^^ (-1))).toBitVec.toNat ≤ h := by
    show ((nI h).toBitVec &&& ((nI 1 <<< (nI w &&& nI 31)) ^^^ (-1)).toBitVec).toNat ≤ h
    rw [BitVec.toNat_and, pk_tn (by omega)]
    exact Nat.and_le_left
  refine ⟨(nI h &&& ((nI 1 <<< (nI w &&& nI 31)) ^^^ (-1))).toBitVec.toNat, by omega, ?_⟩
  apply Int32.toBitVec_inj.mp
  apply BitVec.eq_of_toNat_eq
  rw [pk_tn (by omega)]
theorem sh_bit {w : Nat} (hw : w < 12) : nI 1 <<< (nI w &&& nI 31) = nI (2 ^ w) := by
  have : ∀ w, w < 12 → nI 1 <<< (nI w &&& nI 31) = nI (2 ^ w) := by decide +kernel
  exact this w hw
theorem has_or {h w : Nat} (hh : h < 4096) (hw : w < 12) : ∃ k, k < 4096 ∧ nI h ||| (nI 1 <<< (nI w &&& nI 31)) = nI k := by
  have q : 2 ^ w < 2 ^ 12 := Nat.pow_lt_pow_right (by omega) hw
  have q2 : h ||| 2 ^ w < 2 ^ 12 := Nat.or_lt_two_pow (by omega) q
  refine ⟨h ||| 2 ^ w, by omega, ?_⟩
  rw [sh_bit hw]
  apply Int32.toBitVec_inj.mp
  apply BitVec.eq_of_toNat_eq
  show ((nI h).toBitVec ||| (nI (2 ^ w)).toBitVec).toNat = _
  rw [BitVec.toNat_or, pk_tn (by omega), pk_tn (by omega), pk_tn (by omega)]
theorem WR_lost {ρ : Nat → Int32} (W : WR ρ) : WR (upd ρ 4 (S_mo (ρ 4) (nI 99999))) := by
  obtain ⟨m, hm, e⟩ := W.2.2.2.1
  rw [e]
  obtain ⟨w, hw, e2⟩ := S_mo_n hm (by omega)
  exact WR_head W (by omega) (by omega) (by omega) (fun h => by omega) (fun _ => ⟨w, hw, e2⟩) (fun h => by omega) (fun h => by omega)
theorem nS_upd {ρ : Nat → Int32} {a : Nat} {v : Int32} (h : ¬ 1 = a) : nS (upd ρ a v) = nS ρ := by unfold nS; rw [upd_ne _ _ h]
theorem nP_upd {ρ : Nat → Int32} {a : Nat} {v : Int32} (h : ¬ 3 = a) : nP (upd ρ a v) = nP ρ := by unfold nP; rw [upd_ne _ _ h]
theorem WR_S_in {ρ : Nat → Int32} (W : WR ρ) {p i : Nat} (hp : p < nP ρ) (hi : i < nS ρ) : WR (S_in ρ p i).2 := by
  have W1 := WR_in W hp (v := nI i) (Or.inr ⟨i, hi, rfl⟩)
  unfold S_in
  rcases S_tk_or (ρ (sx i 0)) (ρ (px p 0)) (S_set ρ i) with e | ⟨w, hw, e⟩
  · have e : S_takes ρ i (ρ (px p 0)) = -1 := e
    rw [e, if_pos rfl]; exact W1
  · have e : S_takes ρ i (ρ (px p 0)) = nI w := e
    rw [e, if_neg (nm (by omega))]
    obtain ⟨h, hh, eh⟩ := (WR_P W hp).1
    have eS : nS (upd ρ (px p 1) (nI i)) = nS ρ := nS_upd (by unfold px; omega)
    have eP : nP (upd ρ (px p 1) (nI i)) = nP ρ := nP_upd (by unfold px; omega)
    obtain ⟨k, hk, ek⟩ := has_and hh hw
    have W2 := WR_has W1 (p := p) (by rw [eP]; exact hp) (v := ρ (px p 0) &&& ((nI 1 <<< (nI w &&& nI 31)) ^^^ (-1))) ⟨k, hk, by rw [eh]; exact ek⟩
    dsimp only
    split
    · have W3 := WR_lost W2
      rw [upd_ne _ _ (show ¬ 4 = px p 0 by unfold px; omega), upd_ne _ _ (show ¬ 4 = px p 1 by unfold px; omega)] at W3
      exact W3
    · next q =>
      refine WR_lay W2 (by rw [nS_upd (by unfold px; omega), eS]; exact hi) ?_ hw
      rw [nK_upd (by unfold px sx; have := WR_i8 W hi; omega), nK_upd (by unfold px sx; have := WR_i8 W hi; omega)]
      obtain ⟨hh, hh1, hh2⟩ := S_hd_le (ρ (sx i 0))
      have := okS_k (WR_okS W hi)
      rw [hh2, this.1] at q
      have q := (nI_ltI (by omega) (by omega)).mp (Int32.not_le.mp q)
      omega
theorem S_gives_n {ρ : Nat → Int32} (W : WR ρ) {i j : Nat} (hi : i < nS ρ) (hj : j < nK ρ i) (e : S_from ρ i = nI j) : ∃ w, w < 12 ∧ S_gives ρ i = nI w ∧ ρ (sx i (4 + j)) = nI w := by
  have := okS_k (WR_okS W hi)
  obtain ⟨w, hw, ew⟩ := (WR_S W hi).2.2.2.2 j hj
  refine ⟨w, hw, ?_, ew⟩
  unfold S_gives
  rw [e, if_neg (nm (by omega)), nI_clamp (by omega), ew]
theorem S_sh_upd (ρ : Nat → Int32) {i j t a : Nat} (v : Int32) (h : a < sx i 4 ∨ sx i 9 < a) (hj : 4 + j + t ≤ 8) : S_sh (upd ρ a v) i j t = upd (S_sh ρ i j t) a v := by
  funext b
  unfold S_sh upd
  by_cases q : sx i (4 + j) ≤ b ∧ b < sx i (4 + j + t)
  · rw [if_pos q, if_neg (by unfold sx at q h; omega)]
    by_cases e : b = a
    · exfalso; unfold sx at q h; omega
    · rw [if_neg e]; exact (if_pos q).symm
  · rw [if_neg q]
    by_cases e : b = a
    · rw [if_pos e, if_pos e]
    · rw [if_neg e, if_neg e]; exact (if_neg q).symm
theorem WR_S_out {ρ : Nat → Int32} (W : WR ρ) {p i : Nat} (hp : p < nP ρ) (hi : i < nS ρ) : WR (S_out ρ p i).2 := by
  have W1 := WR_in W hp (v := -1) (Or.inl rfl)
  have i8 := WR_i8 W hi
  unfold S_out
  rcases S_from_or ρ i with e | ⟨j, hj, e⟩
  · rw [e, if_pos rfl]; exact W1
  · have ok := okS_k (WR_okS W hi)
    obtain ⟨w, hw, ew, -⟩ := S_gives_n W hi hj e
    rw [e, if_neg (nm (by omega)), nI_clamp (by omega), ew]
    have eS : nS (upd ρ (px p 1) (-1)) = nS ρ := nS_upd (by unfold px; omega)
    have eP : nP (upd ρ (px p 1) (-1)) = nP ρ := nP_upd (by unfold px; omega)
    have eK : nK (upd ρ (px p 1) (-1)) i = nK ρ i := nK_upd (by unfold px sx; omega)
    have W2 := WR_pop W1 (i := i) (j := j) (by rw [eS]; exact hi) (by rw [eK]; exact hj)
    rw [eK] at W2
    have r3 : S_sh (upd ρ (px p 1) (-1)) i j (nK ρ i - 1 - j) (sx i 3) = upd ρ (px p 1) (-1) (sx i 3) := S_sh_out _ (by unfold sx; omega)
    have r0 : S_sh (upd ρ (px p 1) (-1)) i j (nK ρ i - 1 - j) (px p 0) = ρ (px p 0) := by
      rw [S_sh_out _ (by unfold sx px; omega), upd_ne _ _ (by unfold px; omega)]
    have r4 : S_sh (upd ρ (px p 1) (-1)) i j (nK ρ i - 1 - j) 4 = ρ 4 := by
      rw [S_sh_out _ (by unfold sx; omega), upd_ne _ _ (by unfold px; omega)]
    dsimp only
    unfold S_oz
    rw [r3, r0, r4]
    split
    · have W3 := WR_lost W2
      rw [upd_ne _ _ (show ¬ 4 = sx i 3 by unfold sx; omega), r4] at W3
      exact W3
    · obtain ⟨h, hh, eh⟩ := (WR_P W hp).1
      obtain ⟨k, hk, ek⟩ := has_or hh hw
      refine WR_has W2 ?_ ⟨k, hk, by rw [eh]; exact ek⟩
      rw [nP_upd (by unfold sx; omega)]
      unfold nP
      rw [S_sh_out _ (by unfold sx; omega), upd_ne _ _ (by unfold px; omega)]
      exact hp
theorem S_in_np (ρ : Nat → Int32) {p i : Nat} (hi : i < 8) (hk : nK ρ i ≤ 5) {a : Nat} (ha : a < 4) : (S_in ρ p i).2 a = ρ a := by
  unfold S_in
  split
  · exact upd_ne _ _ (by unfold px; omega)
  · dsimp only
    split
    · rw [upd_ne _ _ (by omega), upd_ne _ _ (by unfold px; omega), upd_ne _ _ (by unfold px; omega)]
    · unfold S_lay
      rw [upd_ne _ _ (by unfold sx; omega), upd_ne _ _ (by unfold sx; omega), upd_ne _ _ (by unfold px; omega), upd_ne _ _ (by unfold px; omega)]
theorem S_out_np (ρ : Nat → Int32) {p i : Nat} {a : Nat} (ha : a < 4) : (S_out ρ p i).2 a = ρ a := by
  unfold S_out
  split
  · exact upd_ne _ _ (by unfold px; omega)
  · dsimp only
    unfold S_oz
    split
    · rw [upd_ne _ _ (by omega), upd_ne _ _ (by unfold sx; omega), S_sh_out _ (by unfold sx; omega), upd_ne _ _ (by unfold px; omega)]
    · rw [upd_ne _ _ (by unfold px; omega), upd_ne _ _ (by unfold sx; omega), S_sh_out _ (by unfold sx; omega), upd_ne _ _ (by unfold px; omega)]
theorem WR_S_cz {ρ : Nat → Int32} (W : WR ρ) {p i : Nat} (hp : p < nP ρ) (hi : i < nS ρ) : WR (S_cz ρ p i) := by
  obtain ⟨w, hw, ew⟩ := (WR_S W hi).2.1
  obtain ⟨v, hv, ev⟩ := S_mo_n hw (by omega)
  have i8 := WR_i8 W hi
  have W1 := WR_sf W hi (f := 1) (by omega) (v := S_mo (ρ (sx i 1)) (nI 9999)) (fun h => by omega) (fun _ => ⟨v, hv, by rw [ew]; exact ev⟩) (fun h => by omega)
  obtain ⟨w2, hw2, ew2⟩ := (WR_P W hp).2.2
  obtain ⟨v2, hv2, ev2⟩ := S_mo_n hw2 (by omega)
  exact WR_crossed W1 (by rw [nP_upd (by unfold sx; omega)]; exact hp) ⟨v2, hv2, by rw [ew2]; exact ev2⟩
theorem WR_S_cr {ρ : Nat → Int32} (W : WR ρ) {p i : Nat} (hp : p < nP ρ) (hi : i < nS ρ) : WR (S_cr ρ p i).2 := by
  have i8 := WR_i8 W hi
  have ok := okS_k (WR_okS W hi)
  unfold S_cr
  split
  · refine WR_S_cz (WR_S_in W hp hi) ?_ ?_
    · unfold nP; rw [S_in_np ρ i8 ok.2 (by omega)]; exact hp
    · unfold nS; rw [S_in_np ρ i8 ok.2 (by omega)]; exact hi
  · refine WR_S_cz (WR_S_out W hp hi) ?_ ?_
    · unfold nP; rw [S_out_np ρ (by omega)]; exact hp
    · unfold nS; rw [S_out_np ρ (by omega)]; exact hi
/-! a day -/
def dD (ρ : Nat → Int32) : Nat := (ρ 0).toNatClampNeg
def cN (ρ : Nat → Int32) : Nat := (ρ (5 + dD ρ % 6)).toNatClampNeg
def S_d1 (ρ : Nat → Int32) : Nat → Int32 := if cN ρ / 10 < nP ρ ∧ cN ρ % 10 < nS ρ ∧ S_may ρ (cN ρ / 10) (cN ρ % 10) then (S_cr ρ (cN ρ / 10) (cN ρ % 10)).2 else ρ
def S_day (ρ : Nat → Int32) : Nat → Int32 := upd (S_d1 ρ) 0 (S_mo (S_d1 ρ 0) (nI 99999))
def S_days (ρ : Nat → Int32) : Nat → (Nat → Int32)
  | 0 => ρ
  | n + 1 => S_day (S_days ρ n)
theorem WR_d {ρ : Nat → Int32} (W : WR ρ) : ρ 0 = nI (dD ρ) ∧ dD ρ ≤ 99999 := by
  obtain ⟨d, hd, e⟩ := W.1
  unfold dD
  rw [e, nI_clamp (by omega)]
  exact ⟨rfl, hd⟩
theorem WR_c {ρ : Nat → Int32} (W : WR ρ) : ∃ p s, p < 6 ∧ s < 8 ∧ ρ (5 + dD ρ % 6) = nI (10 * p + s) ∧ cN ρ = 10 * p + s ∧ cN ρ / 10 = p ∧ cN ρ % 10 = s := by
  obtain ⟨p, s, hp, hs, e⟩ := W.2.2.2.2.1 (dD ρ % 6) (by omega)
  refine ⟨p, s, hp, hs, e, ?_⟩
  have : cN ρ = 10 * p + s := by
    unfold cN
    rw [e, nI_clamp (by omega)]
  rw [this]
  omega
theorem m_placeNow (σ : ts_S) (W : WR (σ 6 1)) : F_X5_placeNow [.inr (.inr (.inl (6, 0)))] σ = some (some (.inl (nI (5 + dD (σ 6 1) % 6))), σ) := by
  have h := WR_d W
  rw [e_X5_placeNow, ck_n _ (by omega) (by omega), h.1, pk_rem (by omega) (by omega) (by omega), nI_add]
theorem WR_d1 {ρ : Nat → Int32} (W : WR ρ) : WR (S_d1 ρ) := by
  unfold S_d1
  split
  · next h => exact WR_S_cr W h.1 h.2.1
  · exact W
theorem WR_day {ρ : Nat → Int32} (W : WR ρ) : WR (S_day ρ) := by
  have W1 := WR_d1 W
  obtain ⟨d, hd, e⟩ := W1.1
  obtain ⟨w, hw, e2⟩ := S_mo_n hd (by omega)
  unfold S_day
  exact WR_head W1 (by omega) (by omega) (by omega) (fun _ => ⟨w, hw, by rw [e]; exact e2⟩) (fun h => by omega) (fun h => by omega) (fun h => by omega)
theorem WR_days {ρ : Nat → Int32} (W : WR ρ) : ∀ n, WR (S_days ρ n)
  | 0 => W
  | n + 1 => WR_day (WR_days W n)
theorem m_day (σ : ts_S) (W : WR (σ 6 1)) : F_X5_day [.inr (.inr (.inl (6, 0)))] σ = some (none, mr σ (S_day (σ 6 1))) := by
  obtain ⟨p, s, hp, hs, e, e1, e2, e3⟩ := WR_c W
  have hS := W.2.1
  have hP := W.2.2.1
  have t5 : 5 + dD (σ 6 1) % 6 < 111 := by omega
  have d1 : nI (10 * p + s) / nI 10 = nI p := by rw [pk_div (by omega) (by omega) (by omega)]; congr 1; omega
  have d2 : nI (10 * p + s) - nI (10 * p + s) / nI 10 * nI 10 = nI s := by rw [pk_rem (by omega) (by omega) (by omega)]; congr 1; omega
  rw [e_X5_day, m_placeNow σ W, bi_s, ck_n _ t5 (by omega), nI_clamp (by omega), ni_s, m_placeNow σ W, bi_s, ck_n _ t5 (by omega), nI_clamp (by omega), ni_s, e, d2, d1]
  unfold S_day S_d1
  rw [e2, e3]
  by_cases h1 : p < nP (σ 6 1)
  · rw [m_isPerson_t σ (by rw [hP.1]; exact (le_pred (by omega)).mpr ⟨nge (by omega), nI_lt h1 (by omega)⟩), bi_s, if_neg n10]
    by_cases h2 : s < nS (σ 6 1)
    · rw [m_isSill_t σ (by rw [hS.1]; exact (le_pred (by omega)).mpr ⟨nge (by omega), nI_lt h2 (by omega)⟩), bi_s, if_neg n10]
      by_cases h3 : S_may (σ 6 1) p s
      · rw [m_may_t σ hp hs h3, bi_s, if_neg n10, m_crosses σ hp (WR_okS W h2), bi_s, m_more _ _ (by omega), bv_s, mr_rd, mr_mr, if_pos ⟨h1, h2, h3⟩]
      · rw [m_may_f σ hp hs h3, bi_s, if_pos rfl, m_more _ _ (by omega), bv_s, if_neg (fun q => h3 q.2.2)]
    · rw [m_isSill_f σ (by
        rw [hS.1, le_pred (by omega)]
        exact fun q => h2 ((nI_ltI (by omega) (by omega)).mp q.2)), bi_s, if_pos rfl, m_more _ _ (by omega), bv_s, if_neg (fun q => h2 q.2.1)]
  · rw [m_isPerson_f σ (by
      rw [hP.1, le_pred (by omega)]
      exact fun q => h1 ((nI_ltI (by omega) (by omega)).mp q.2)), bi_s, if_pos rfl, m_more _ _ (by omega), bv_s, if_neg (fun q => h1 q.1)]
theorem m_days_loop {n : Nat} (hn : n < 2 ^ 31) : ∀ (t j : Nat) (σ : ts_S) (ρ : Nat → Int32), WR ρ → σ 6 1 = S_days ρ j → j + t = n → H_X5_daysGo_2 (nI n) (nI j) σ = some (none, mr σ (S_days ρ n))
  | 0, j, σ, ρ, W, hσ, e => by
    rw [h_X5_daysGo_2, if_pos (nI_le (by omega) (by omega))]
    have : j = n := by omega
    rw [← this, ← hσ, mr_id]
  | t + 1, j, σ, ρ, W, hσ, e => by
    rw [h_X5_daysGo_2, if_neg (nI_ge (by omega) (by omega)), m_day σ (by rw [hσ]; exact WR_days W j), bv_s, nI_add, m_days_loop hn t (j + 1) _ ρ W (by rw [mr_rd, hσ]; rfl) (by omega), mr_mr]
theorem m_daysGo {n : Nat} (σ : ts_S) (hn : n < 2 ^ 31) (W : WR (σ 6 1)) : F_X5_daysGo [.inr (.inr (.inl (6, 0))), .inl (nI n)] σ = some (none, mr σ (S_days (σ 6 1) n)) := by
  rw [e_X5_daysGo]
  exact m_days_loop hn n 0 σ (σ 6 1) W rfl (by omega)
