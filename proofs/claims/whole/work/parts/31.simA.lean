/-! public methods: the quarter, part 1 -/
theorem sim_list (a1 a2 a3 : Int32) : SIM F_X4_list F_X5_list [.inl a1, .inl a2, .inl a3] := by
  intro σ I
  have R := INV_R I
  by_cases h1 : nI 0 ≤ a1 ∧ a1 < nI 6
  · by_cases h2 : nI 0 ≤ a2 ∧ a2 < nI 6
    · by_cases h3 : nI 0 ≤ a3 ∧ a3 < nI 8
      · obtain ⟨i, hi, rfl⟩ := in_of (by omega) h1
        obtain ⟨p, hp, rfl⟩ := in_of (by omega) h2
        obtain ⟨s, hs, rfl⟩ := in_of (by omega) h3
        have ev : nI 10 * nI p + nI s = nI (10 * p + s) := by rw [pk_mul, nI_add]
        have W' := WR_head R.1 (a := 5 + i) (v := nI (10 * p + s)) (by omega) (by omega) (by omega) (fun h => by omega) (fun h => by omega) (fun _ => ⟨p, s, hp, hs, rfl⟩) (fun h => by omega)
        apply sim_mk (h3 := INV_q I (RQ_head R (c := 1) (j := i) (a := 5 + i) W' (by omega)))
        · rw [e_X4_list, below_t σ h1, bi_s, if_neg n10, below_t σ h2, bi_s, if_neg n10, below_t σ h3, bi_s, if_neg n10, ck_n _ hi (by omega), ni_s, ck_n _ hi (by omega), nw_s, nI_clamp (by omega), ev, qu_up]
        · rw [e_X5_list, place_t _ h1, bi_s, if_neg n10, mw_t _ (by omega) h2, bi_s, if_neg n10, mw_t _ (by omega) h3, bi_s, if_neg n10, nI_add, ev, m_become _ _ (by omega), bi_s, R.2.2.1 i hi]; rfl
      · obtain ⟨A, e1, σ2, e2, I2⟩ := find0 I
        apply sim_mk (h3 := I2)
        · rw [e_X4_list, below_t σ h1, bi_s, if_neg n10, below_t σ h2, bi_s, if_neg n10, below_f σ h3, bi_s, if_pos rfl, e1, bi_s]
        · rw [e_X5_list, place_t _ h1, bi_s, if_neg n10, mw_t _ (by omega) h2, bi_s, if_neg n10, mw_f _ (by omega) h3, bi_s, if_pos rfl, e2, bi_s]
    · obtain ⟨A, e1, σ2, e2, I2⟩ := find0 I
      apply sim_mk (h3 := I2)
      · rw [e_X4_list, below_t σ h1, bi_s, if_neg n10, below_f σ h2, bi_s, if_pos rfl, e1, bi_s]
      · rw [e_X5_list, place_t _ h1, bi_s, if_neg n10, mw_f _ (by omega) h2, bi_s, if_pos rfl, e2, bi_s]
  · obtain ⟨A, e1, σ2, e2, I2⟩ := find0 I
    apply sim_mk (h3 := I2)
    · rw [e_X4_list, below_f σ h1, bi_s, if_pos rfl, e1, bi_s]
    · rw [e_X5_list, place_f _ h1, bi_s, if_pos rfl, e2, bi_s]
theorem sim_listed (a1 : Int32) : SIM F_X4_listed F_X5_listed [.inl a1] := by
  intro σ I
  have R := INV_R I
  by_cases h1 : nI 0 ≤ a1 ∧ a1 < nI 6
  · obtain ⟨i, hi, rfl⟩ := in_of (by omega) h1
    apply sim_mk (h3 := I)
    · rw [e_X4_listed, below_t σ h1, bi_s, if_neg n10, ck_n _ hi (by omega), nI_clamp (by omega)]
    · rw [e_X5_listed, place_t _ h1, bi_s, if_neg n10, nI_add, ck_n _ (by omega) (by omega), nI_clamp (by omega), R.2.2.1 i hi]
  · obtain ⟨A, e1, σ2, e2, I2⟩ := find0 I
    apply sim_mk (h3 := I2)
    · rw [e_X4_listed, below_f σ h1, bi_s, if_pos rfl, e1, bi_s]
    · rw [e_X5_listed, place_f _ h1, bi_s, if_pos rfl, e2, bi_s]
/-! a new sill -/
def S_zr (ρ : Nat → Int32) (i t : Nat) : Nat → Int32 := fun a => if sx i 0 ≤ a ∧ a < sx i t then nI 0 else ρ a
theorem S_zr_0 (ρ : Nat → Int32) (i : Nat) : S_zr ρ i 0 = ρ := by
  funext a
  unfold S_zr
  rw [if_neg (by omega)]
theorem S_zr_s (ρ : Nat → Int32) (i t : Nat) : upd (S_zr ρ i t) (sx i t) (nI 0) = S_zr ρ i (t + 1) := by
  funext a
  unfold upd S_zr sx
  by_cases h : a = 21 + 9 * i + t
  · rw [if_pos h, if_pos (by omega)]
  · rw [if_neg h]
    by_cases h2 : 21 + 9 * i + 0 ≤ a ∧ a < 21 + 9 * i + t
    · rw [if_pos h2, if_pos (by omega)]
    · rw [if_neg h2, if_neg (by omega)]
def S_new (ρ : Nat → Int32) (k : Int32) : Nat → Int32 := upd (upd (S_zr ρ (nS ρ) 9) (sx (nS ρ) 0) k) 1 (ρ 1 + nI 1)
theorem S_new_o (ρ : Nat → Int32) (k : Int32) {a : Nat} (h1 : ¬ a = 1) (h : a < sx (nS ρ) 0 ∨ sx (nS ρ) 9 ≤ a) : S_new ρ k a = ρ a := by
  unfold S_new
  rw [upd_ne _ _ h1, upd_ne _ _ (by unfold sx at h ⊢; omega)]
  unfold S_zr
  rw [if_neg (by omega)]
theorem S_new_n (ρ : Nat → Int32) (k : Int32) {f : Nat} (hf : f < 9) : S_new ρ k (sx (nS ρ) f) = if f = 0 then k else nI 0 := by
  unfold S_new
  rw [upd_ne _ _ (by unfold sx; omega)]
  by_cases e : f = 0
  · subst e; rw [upd_at, if_pos rfl]
  · rw [upd_ne _ _ (by unfold sx; omega), if_neg e]
    unfold S_zr
    rw [if_pos (by unfold sx; omega)]
theorem S_new_1 (ρ : Nat → Int32) (k : Int32) : S_new ρ k 1 = ρ 1 + nI 1 := by unfold S_new; rw [upd_at]
theorem S_new_c {ρ : Nat → Int32} (W : WR ρ) (h8 : nS ρ < 8) (k : Int32) : nS (S_new ρ k) = nS ρ + 1 ∧ nP (S_new ρ k) = nP ρ := by
  constructor
  · show (S_new ρ k 1).toNatClampNeg = _
    rw [S_new_1, W.2.1.1, nI_add, nI_clamp (by omega)]
  · show (S_new ρ k 3).toNatClampNeg = _
    rw [S_new_o ρ k (by omega) (by unfold sx; omega)]; rfl
theorem WR_new {ρ : Nat → Int32} (W : WR ρ) (h8 : nS ρ < 8) {k : Nat} (hk : k < 7) : WR (S_new ρ (nI k)) := by
  obtain ⟨eS, eP⟩ := S_new_c W h8 (nI k)
  obtain ⟨h0, h1, h2, h3, h4, h5, h6, h7⟩ := W
  refine ⟨by rw [S_new_o ρ _ (by omega) (by unfold sx; omega)]; exact h0, ?_, ?_, by rw [S_new_o ρ _ (by omega) (by unfold sx; omega)]; exact h3, fun i hi => ?_, fun i hi => ?_, fun i hi => ?_, fun p hp => ?_⟩
  · rw [eS, S_new_1, h1.1, nI_add]; exact ⟨rfl, by omega⟩
  · rw [eP, S_new_o ρ _ (by omega) (by unfold sx; omega)]; exact h2
  · rw [S_new_o ρ _ (by omega) (by unfold sx; omega)]; exact h4 i hi
  · rw [eS, S_new_o ρ _ (by omega) (by unfold sx; omega)]
    rcases h5 i hi with e | ⟨s, hs, e⟩
    · exact Or.inl e
    · exact Or.inr ⟨s, by omega, e⟩
  · rw [eS] at hi
    by_cases e : i = nS ρ
    · subst e
      refine ⟨⟨k, hk, by rw [S_new_n ρ _ (by omega), if_pos rfl]⟩, ⟨0, by omega, by rw [S_new_n ρ _ (by omega), if_neg (by omega)]⟩, ⟨0, by omega, by rw [S_new_n ρ _ (by omega), if_neg (by omega)]⟩, ⟨0, by omega, by rw [S_new_n ρ _ (by omega), if_neg (by omega)]⟩, fun j hj => ?_⟩
      exfalso
      unfold nK at hj
      rw [S_new_n ρ _ (by omega), if_neg (by omega), nI_clamp (by omega)] at hj
      omega
    · exact wS_c (fun f hf => S_new_o ρ _ (by unfold sx; omega) (by unfold sx; omega)) (h6 i (by omega))
  · rw [eP] at hp
    obtain ⟨g0, g1, g2⟩ := h7 p hp
    refine ⟨by rw [S_new_o ρ _ (by unfold px; omega) (by unfold px sx; omega)]; exact g0, ?_, by rw [S_new_o ρ _ (by unfold px; omega) (by unfold px sx; omega)]; exact g2⟩
    rw [eS, S_new_o ρ _ (by unfold px; omega) (by unfold px sx; omega)]
    rcases g1 with e | ⟨s, hs, e⟩
    · exact Or.inl e
    · exact Or.inr ⟨s, by omega, e⟩
theorem m_comes_loop {n : Nat} (k : Int32) (hn : n < 8) : ∀ (t j : Nat) (σ : ts_S) (ρ : Nat → Int32), nS ρ = n → j + t = 9 → σ 6 1 = S_zr ρ n j → H_X5_comes_9 k (nI n) (nI j) σ = some (some (.inl (nI n)), mr σ (S_new ρ k))
  | 0, j, σ, ρ, hρ, e, hσ => by
    have : j = 9 := by omega
    subst this
    have q : sx n 0 < 111 := by unfold sx; omega
    rw [h_X5_comes_9, if_pos (nI_le (by omega) (by omega)), m_sillAt, bi_s, ck_n _ q (by omega), nw_s, ck_n _ (by omega) (by omega), ck_n _ (by omega) (by omega), nw_s, nI_clamp (by omega), mr_up, mr_up, mr_rd, mr_mr, upd_ne _ _ (show ¬ 1 = sx n 0 by unfold sx; omega), hσ]
    have e1 : S_zr ρ n 9 1 = ρ 1 := by unfold S_zr; rw [if_neg (by unfold sx; omega)]
    rw [e1]
    unfold S_new
    rw [hρ]
  | t + 1, j, σ, ρ, hρ, e, hσ => by
    have q : sx n j < 111 := by unfold sx; omega
    rw [h_X5_comes_9, if_neg (nI_ge (by omega) (by omega)), m_sillAt, bi_s, ck_n _ q (by omega), nw_s, nI_clamp (by omega), mr_up, nI_add, m_comes_loop k hn t (j + 1) _ ρ hρ (by omega) (by rw [mr_rd, hσ, S_zr_s]), mr_mr]
theorem m_comes (k : Int32) (σ : ts_S) (W : WR (σ 6 1)) (h8 : nS (σ 6 1) < 8) : F_X5_comes [.inr (.inr (.inl (6, 0))), .inl k] σ = some (some (.inl (nI (nS (σ 6 1)))), mr σ (S_new (σ 6 1) k)) := by
  rw [e_X5_comes, ck_n _ (by omega) (by omega), ni_s, W.2.1.1]
  exact m_comes_loop k h8 9 0 σ (σ 6 1) rfl (by omega) (by rw [S_zr_0])
theorem c_addSill {g : Nat} {ρ : Nat → Int32} (hg : ts_q g) {k : Nat} (hk : k < 7) (σ : ts_S) (R : RQ (σ g) ρ) (h8 : nS ρ < 8) : ∃ τ, F_X1_addSill [.inr (.inr (.inl (g, 0))), .inl (nI k)] σ = some (some (.inl (nI (nS ρ))), va_up σ g τ) ∧ RQ τ (S_new ρ (nI k)) := by
  have W := R.1
  have e4 : σ g 0 4 = nI (nS ρ) := by rw [R.2.1.2.1, W.2.1.1]
  refine ⟨qu (qu (qu (qu (qu (σ g) 0 4 (nI (nS ρ + 1))) 2 (nS ρ) (nI k)) 3 (nS ρ) (nI 0)) 4 (nS ρ) (nI 0)) 5 (nS ρ) (nI 0), ?_, ?_⟩
  · rw [e_X1_addSill hg, e4, if_pos (nI_lt h8 (by omega)), ni_s, nw_s, ck_n _ h8 (by omega), nw_s, ck_n _ h8 (by omega), nw_s, ck_n _ h8 (by omega), nw_s, ck_n _ h8 (by omega), nw_s, nI_clamp (by omega), nI_add, qu_up, qu_up, qu_up, qu_up, qu_up, up_uu, up_uu, up_uu, up_uu, up_at, up_at, up_at, up_at]
  · obtain ⟨eS, eP⟩ := S_new_c W h8 (nI k)
    obtain ⟨-, ⟨a0, a1, a2, a3, a4⟩, hl, hp, hS, hP⟩ := R
    have o : ∀ c j, ¬ (c = 0 ∧ j = 4) → ¬ (2 ≤ c ∧ c ≤ 5 ∧ j = nS ρ) → qu (qu (qu (qu (qu (σ g) 0 4 (nI (nS ρ + 1))) 2 (nS ρ) (nI k)) 3 (nS ρ) (nI 0)) 4 (nS ρ) (nI 0)) 5 (nS ρ) (nI 0) c j = σ g c j := fun c j h1 h2 => by
      rw [qu_ne _ _ (by omega), qu_ne _ _ (by omega), qu_ne _ _ (by omega), qu_ne _ _ (by omega), qu_ne _ _ (by omega)]
    refine ⟨WR_new W h8 hk, ⟨?_, ?_, ?_, ?_, ?_⟩, fun i hi => ?_, fun i hi => ?_, fun i hi => ?_, fun p hp' => ?_⟩
    · rw [o _ _ (by omega) (by omega), S_new_o ρ _ (by omega) (by unfold sx; omega)]; exact a0
    · rw [qu_ne _ _ (by omega), qu_ne _ _ (by omega), qu_ne _ _ (by omega), qu_ne _ _ (by omega), qu_at, S_new_1, W.2.1.1, nI_add]
    · rw [o _ _ (by omega) (by omega), S_new_o ρ _ (by omega) (by unfold sx; omega)]; exact a2
    · rw [o _ _ (by omega) (by omega), S_new_o ρ _ (by omega) (by unfold sx; omega)]; exact a3
    · rw [o _ _ (by omega) (by omega), S_new_o ρ _ (by omega) (by unfold sx; omega)]; exact a4
    · rw [o _ _ (by omega) (by omega), S_new_o ρ _ (by omega) (by unfold sx; omega)]; exact hl i hi
    · rw [o _ _ (by omega) (by omega), S_new_o ρ _ (by omega) (by unfold sx; omega)]; exact hp i hi
    · rw [eS] at hi
      by_cases e : i = nS ρ
      · subst e
        refine ⟨?_, ?_, ?_, ?_, fun j hj => ?_⟩
        · rw [qu_ne _ _ (by omega), qu_ne _ _ (by omega), qu_ne _ _ (by omega), qu_at, S_new_n ρ _ (by omega), if_pos rfl]
        · rw [qu_ne _ _ (by omega), qu_ne _ _ (by omega), qu_at, S_new_n ρ _ (by omega), if_neg (by omega)]
        · rw [qu_ne _ _ (by omega), qu_at, S_new_n ρ _ (by omega), if_neg (by omega)]
        · rw [qu_at, S_new_n ρ _ (by omega), if_neg (by omega)]
        · exfalso
          unfold nK at hj
          rw [S_new_n ρ _ (by omega), if_neg (by omega), nI_clamp (by omega)] at hj
          omega
      · have hi' : i < nS ρ := by omega
        exact rS_c (okS_k (WR_okS W hi')).2 (fun f hf => S_new_o ρ _ (by unfold sx; omega) (by unfold sx; omega)) (fun c hc => o _ _ (by omega) (by omega)) (fun j hj => o _ _ (by omega) (by omega)) (hS i hi')
    · rw [eP] at hp'
      exact rP_c (fun f hf => S_new_o ρ _ (by unfold px; omega) (by unfold px sx; omega)) (fun c hc => o _ _ (by omega) (by omega)) (hP p hp')
theorem c_addSill_n {g : Nat} {ρ : Nat → Int32} (hg : ts_q g) (k : Int32) (σ : ts_S) (R : RQ (σ g) ρ) (h8 : ¬ nS ρ < 8) : F_X1_addSill [.inr (.inr (.inl (g, 0))), .inl k] σ = some (some (.inl (-1)), σ) := by
  have W := R.1
  have := W.2.1
  rw [e_X1_addSill hg, R.2.1.2.1, W.2.1.1, if_neg (nI_nlt (by omega) (by omega))]
theorem sim_sill (a1 : Int32) : SIM F_X4_sill F_X5_sill [.inl a1] := by
  intro σ I
  have R := INV_R I
  have W := R.1
  have hS := W.2.1
  by_cases h1 : nI 0 ≤ a1 ∧ a1 < nI 7
  · obtain ⟨k, hk, rfl⟩ := in_of (by omega) h1
    by_cases h8 : nS (σ 6 1) < 8
    · obtain ⟨τ, e1, R1⟩ := c_addSill hq1 hk σ R h8
      apply sim_mk (h3 := INV_q I R1)
      · rw [e_X4_sill, below_t σ h1, bi_s, if_neg n10, e1, bi_s, if_neg (nm (by omega))]
      · have e : (va_up σ 1 τ) 6 1 1 = nI (nS (σ 6 1)) := hS.1
        rw [e_X5_sill, kind_t _ h1, bi_s, if_neg n10, ck_n _ (by omega) (by omega), e, if_neg (ki_eq (by omega) (by omega) (by omega)), m_comes _ (va_up σ 1 τ) W h8, bi_s]; rfl
    · obtain ⟨A, e1, σ2, e2, I2⟩ := find1 I
      apply sim_mk (h3 := I2)
      · rw [e_X4_sill, below_t σ h1, bi_s, if_neg n10, c_addSill_n hq1 _ σ R h8, bi_s, if_pos rfl, e1, bi_s]
      · have e : (va_up σ 0 A) 6 1 1 = nI (nS (σ 6 1)) := hS.1
        have n8 : nS (σ 6 1) = 8 := by omega
        rw [e_X5_sill, kind_t _ h1, bi_s, if_neg n10, ck_n _ (by omega) (by omega), e, n8, if_pos rfl, e2, bi_s]
  · obtain ⟨A, e1, σ2, e2, I2⟩ := find0 I
    apply sim_mk (h3 := I2)
    · rw [e_X4_sill, below_f σ h1, bi_s, if_pos rfl, e1, bi_s]
    · rw [e_X5_sill, kind_f _ h1, bi_s, if_pos rfl, e2, bi_s]
