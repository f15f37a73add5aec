/-! public methods: the quarter, part 2 -/
def S_pn (ρ : Nat → Int32) (w : Int32) : Nat → Int32 := upd (upd (upd (upd ρ (px (nP ρ) 0) w) (px (nP ρ) 1) (-1)) (px (nP ρ) 2) (nI 0)) 3 (ρ 3 + nI 1)
theorem S_pn_o (ρ : Nat → Int32) (w : Int32) {a : Nat} (h3 : ¬ a = 3) (h : a < px (nP ρ) 0 ∨ px (nP ρ) 3 ≤ a) : S_pn ρ w a = ρ a := by
  unfold S_pn
  rw [upd_ne _ _ h3, upd_ne _ _ (by unfold px at h ⊢; omega), upd_ne _ _ (by unfold px at h ⊢; omega), upd_ne _ _ (by unfold px at h ⊢; omega)]
theorem S_pn_3 (ρ : Nat → Int32) (w : Int32) : S_pn ρ w 3 = ρ 3 + nI 1 := by unfold S_pn; rw [upd_at]
theorem S_pn_f (ρ : Nat → Int32) (w : Int32) : S_pn ρ w (px (nP ρ) 0) = w ∧ S_pn ρ w (px (nP ρ) 1) = -1 ∧ S_pn ρ w (px (nP ρ) 2) = nI 0 := by
  unfold S_pn
  refine ⟨?_, ?_, ?_⟩
  · rw [upd_ne _ _ (by unfold px; omega), upd_ne _ _ (by unfold px; omega), upd_ne _ _ (by unfold px; omega), upd_at]
  · rw [upd_ne _ _ (by unfold px; omega), upd_ne _ _ (by unfold px; omega), upd_at]
  · rw [upd_ne _ _ (by unfold px; omega), upd_at]
theorem S_pn_c {ρ : Nat → Int32} (W : WR ρ) (h6 : nP ρ < 6) (w : Int32) : nS (S_pn ρ w) = nS ρ ∧ nP (S_pn ρ w) = nP ρ + 1 := by
  constructor
  · show (S_pn ρ w 1).toNatClampNeg = _
    rw [S_pn_o ρ w (by omega) (by unfold px; omega)]; rfl
  · show (S_pn ρ w 3).toNatClampNeg = _
    rw [S_pn_3, W.2.2.1.1, nI_add, nI_clamp (by omega)]
theorem WR_pn {ρ : Nat → Int32} (W : WR ρ) (h6' : nP ρ < 6) {w : Nat} (hw : w < 4096) : WR (S_pn ρ (nI w)) := by
  obtain ⟨eS, eP⟩ := S_pn_c W h6' (nI w)
  obtain ⟨h0, h1, h2, h3, h4, h5, h6, h7⟩ := W
  refine ⟨by rw [S_pn_o ρ _ (by omega) (by unfold px; omega)]; exact h0, by rw [eS, S_pn_o ρ _ (by omega) (by unfold px; omega)]; exact h1, ?_, by rw [S_pn_o ρ _ (by omega) (by unfold px; omega)]; exact h3, fun i hi => ?_, fun i hi => ?_, fun i hi => ?_, fun p hp => ?_⟩
  · rw [eP, S_pn_3, h2.1, nI_add]; exact ⟨rfl, by omega⟩
  · rw [S_pn_o ρ _ (by omega) (by unfold px; omega)]; exact h4 i hi
  · rw [eS, S_pn_o ρ _ (by omega) (by unfold px; omega)]; exact h5 i hi
  · rw [eS] at hi
    have := h1.2
    exact wS_c (fun f hf => S_pn_o ρ _ (by unfold sx; omega) (by unfold px sx; omega)) (h6 i hi)
  · rw [eP] at hp
    by_cases e : p = nP ρ
    · subst e
      obtain ⟨q0, q1, q2⟩ := S_pn_f ρ (nI w)
      exact ⟨⟨w, hw, q0⟩, Or.inl q1, ⟨0, by omega, q2⟩⟩
    · exact wP_c (fun f hf => S_pn_o ρ _ (by unfold px; omega) (by unfold px; omega)) (S_pn_o ρ _ (by omega) (by unfold px; omega)) (h7 p (by omega))
theorem m_oneMore (w : Int32) (σ : ts_S) (W : WR (σ 6 1)) (h6 : nP (σ 6 1) < 6) : F_X5_onePersonMore [.inr (.inr (.inl (6, 0))), .inl w] σ = some (some (.inl (nI (nP (σ 6 1)))), mr σ (S_pn (σ 6 1) w)) := by
  have q0 : px (nP (σ 6 1)) 0 < 111 := by unfold px; omega
  have q1 : px (nP (σ 6 1)) 1 < 111 := by unfold px; omega
  have q2 : px (nP (σ 6 1)) 2 < 111 := by unfold px; omega
  rw [e_X5_onePersonMore, ck_n _ (by omega) (by omega), ni_s]
  conv => lhs; rw [W.2.2.1.1]
  rw [m_personAt, bi_s, ck_n _ q0 (by omega), nw_s, m_personAt, bi_s, ck_n _ q1 (by omega), nw_s, m_personAt, bi_s, ck_n _ q2 (by omega), nw_s, ck_n _ (by omega) (by omega), ck_n _ (by omega) (by omega), nw_s, nI_clamp (by omega), nI_clamp (by omega), nI_clamp (by omega), mr_up, mr_up, mr_up, mr_up, mr_rd, mr_rd, mr_rd, mr_mr, mr_mr, mr_mr, upd_ne _ _ (show ¬ 3 = px (nP (σ 6 1)) 2 by unfold px; omega), upd_ne _ _ (show ¬ 3 = px (nP (σ 6 1)) 1 by unfold px; omega), upd_ne _ _ (show ¬ 3 = px (nP (σ 6 1)) 0 by unfold px; omega)]; rfl
theorem c_addPerson {g : Nat} {ρ : Nat → Int32} (hg : ts_q g) {w : Nat} (hw : w < 4096) (σ : ts_S) (R : RQ (σ g) ρ) (h6 : nP ρ < 6) : ∃ τ, F_X1_addPerson [.inr (.inr (.inl (g, 0))), .inl (nI w)] σ = some (some (.inl (nI (nP ρ))), va_up σ g τ) ∧ RQ τ (S_pn ρ (nI w)) := by
  have W := R.1
  have e10 : σ g 0 10 = nI (nP ρ) := by rw [R.2.1.2.2.2.1, W.2.2.1.1]
  refine ⟨qu (qu (qu (qu (σ g) 0 10 (nI (nP ρ + 1))) 7 (nP ρ) (nI w)) 8 (nP ρ) (-1)) 9 (nP ρ) (nI 0), ?_, ?_⟩
  · rw [e_X1_addPerson hg, e10, if_pos (nI_lt h6 (by omega)), ni_s, nw_s, ck_n _ h6 (by omega), nw_s, ck_n _ h6 (by omega), nw_s, ck_n _ h6 (by omega), nw_s, nI_clamp (by omega), nI_add, qu_up, qu_up, qu_up, qu_up, up_uu, up_uu, up_uu, up_at, up_at, up_at]
  · obtain ⟨eS, eP⟩ := S_pn_c W h6 (nI w)
    obtain ⟨-, ⟨a0, a1, a2, a3, a4⟩, hl, hp, hS, hP⟩ := R
    have o : ∀ c j, ¬ (c = 0 ∧ j = 10) → ¬ (7 ≤ c ∧ c ≤ 9 ∧ j = nP ρ) → qu (qu (qu (qu (σ g) 0 10 (nI (nP ρ + 1))) 7 (nP ρ) (nI w)) 8 (nP ρ) (-1)) 9 (nP ρ) (nI 0) c j = σ g c j := fun c j h1 h2 => by
      rw [qu_ne _ _ (by omega), qu_ne _ _ (by omega), qu_ne _ _ (by omega), qu_ne _ _ (by omega)]
    refine ⟨WR_pn W h6 hw, ⟨?_, ?_, ?_, ?_, ?_⟩, fun i hi => ?_, fun i hi => ?_, fun i hi => ?_, fun p hp' => ?_⟩
    · rw [o _ _ (by omega) (by omega), S_pn_o ρ _ (by omega) (by unfold px; omega)]; exact a0
    · rw [o _ _ (by omega) (by omega), S_pn_o ρ _ (by omega) (by unfold px; omega)]; exact a1
    · rw [o _ _ (by omega) (by omega), S_pn_o ρ _ (by omega) (by unfold px; omega)]; exact a2
    · rw [qu_ne _ _ (by omega), qu_ne _ _ (by omega), qu_ne _ _ (by omega), qu_at, S_pn_3, W.2.2.1.1, nI_add]
    · rw [o _ _ (by omega) (by omega), S_pn_o ρ _ (by omega) (by unfold px; omega)]; exact a4
    · rw [o _ _ (by omega) (by omega), S_pn_o ρ _ (by omega) (by unfold px; omega)]; exact hl i hi
    · rw [o _ _ (by omega) (by omega), S_pn_o ρ _ (by omega) (by unfold px; omega)]; exact hp i hi
    · rw [eS] at hi
      have i8 := WR_i8 W hi
      exact rS_c (okS_k (WR_okS W hi)).2 (fun f hf => S_pn_o ρ _ (by unfold sx; omega) (by unfold px sx; omega)) (fun c hc => o _ _ (by omega) (by omega)) (fun j hj => o _ _ (by omega) (by omega)) (hS i hi)
    · rw [eP] at hp'
      by_cases e : p = nP ρ
      · subst e
        obtain ⟨q0, q1, q2⟩ := S_pn_f ρ (nI w)
        refine ⟨?_, ?_, ?_⟩
        · rw [qu_ne _ _ (by omega), qu_ne _ _ (by omega), qu_at, q0]
        · rw [qu_ne _ _ (by omega), qu_at, q1]
        · rw [qu_at, q2]
      · exact rP_c (fun f hf => S_pn_o ρ _ (by unfold px; omega) (by unfold px; omega)) (fun c hc => o _ _ (by omega) (by omega)) (hP p (by omega))
theorem c_addPerson_n {g : Nat} {ρ : Nat → Int32} (hg : ts_q g) (w : Int32) (σ : ts_S) (R : RQ (σ g) ρ) (h6 : ¬ nP ρ < 6) : F_X1_addPerson [.inr (.inr (.inl (g, 0))), .inl w] σ = some (some (.inl (-1)), σ) := by
  have W := R.1
  have := W.2.2.1
  rw [e_X1_addPerson hg, R.2.1.2.2.2.1, W.2.2.1.1, if_neg (nI_nlt (by omega) (by omega))]
theorem sim_person (a1 : Int32) : SIM F_X4_person F_X5_person [.inl a1] := by
  intro σ I
  have R := INV_R I
  have W := R.1
  have hP := W.2.2.1
  by_cases h1 : nI 0 ≤ a1 ∧ a1 < nI 4096
  · obtain ⟨k, hk, rfl⟩ := in_of (by omega) h1
    by_cases h8 : nP (σ 6 1) < 6
    · obtain ⟨τ, e1, R1⟩ := c_addPerson hq1 hk σ R h8
      apply sim_mk (h3 := INV_q I R1)
      · rw [e_X4_person, cw_t σ (by omega) h1, bi_s, if_neg n10, e1, bi_s, if_neg (nm (by omega))]
      · have e : (va_up σ 1 τ) 6 1 3 = nI (nP (σ 6 1)) := hP.1
        rw [e_X5_person, set_t _ h1, bi_s, if_neg n10, ck_n _ (by omega) (by omega), e, if_neg (ki_eq (by omega) (by omega) (by omega)), m_oneMore _ (va_up σ 1 τ) W h8, bi_s]; rfl
    · obtain ⟨A, e1, σ2, e2, I2⟩ := find1 I
      apply sim_mk (h3 := I2)
      · rw [e_X4_person, cw_t σ (by omega) h1, bi_s, if_neg n10, c_addPerson_n hq1 _ σ R h8, bi_s, if_pos rfl, e1, bi_s]
      · have e : (va_up σ 0 A) 6 1 3 = nI (nP (σ 6 1)) := hP.1
        have n8 : nP (σ 6 1) = 6 := by omega
        rw [e_X5_person, set_t _ h1, bi_s, if_neg n10, ck_n _ (by omega) (by omega), e, n8, if_pos rfl, e2, bi_s]
  · obtain ⟨A, e1, σ2, e2, I2⟩ := find0 I
    apply sim_mk (h3 := I2)
    · rw [e_X4_person, cw_f σ (by omega) h1, bi_s, if_pos rfl, e1, bi_s]
    · rw [e_X5_person, set_f _ h1, bi_s, if_pos rfl, e2, bi_s]
/-! of -/
def S_told (ρ : Nat → Int32) (i : Nat) (w : Int32) : Int32 := if w = nI 0 then ρ (sx i 0) else if w = nI 1 then ρ (sx i 3) else if w = nI 2 then ρ (sx i 1) else if w = nI 3 then ρ (sx i 2) else if w = nI 4 then S_hd (ρ (sx i 0)) else if w = nI 5 then S_set ρ i else S_gives ρ i
theorem m_told {i : Nat} (w : Int32) (σ : ts_S) (h : okS (σ 6 1) i) : F_X5_told [.inr (.inr (.inl (6, 0))), .inl (nI i), .inl w] σ = some (some (.inl (S_told (σ 6 1) i w)), σ) := by
  rw [e_X5_told, m_sillIs σ h.1 (by omega), m_sillIs σ h.1 (by omega), m_sillIs σ h.1 (by omega), m_sillIs σ h.1 (by omega), m_holds σ h.1, m_keptSet σ h, m_gives σ h, bi_s, bi_s, bi_s, bi_s, bi_s, bi_s, bi_s]
  unfold S_told
  repeat' split
  all_goals rfl
theorem c_tellSill {g : Nat} {ρ : Nat → Int32} (hg : ts_q g) {i : Nat} (w : Int32) (σ : ts_S) (R : RQ (σ g) ρ) (hi : i < nS ρ) : F_X1_tellSill [.inr (.inr (.inl (g, 0))), .inl (nI i), .inl w] σ = some (some (.inl (S_told ρ i w)), σ) := by
  have i8 := WR_i8 R.1 hi
  have ok := okS_k (WR_okS R.1 hi)
  obtain ⟨b0, b1, b2, b3, b4⟩ := RQ_S R hi
  have last : (ts_bi (F_X1_placeGiven [.inr (.inr (.inl (g, 0))), .inl (nI i)] σ) fun x6 σ5 => ts_bi (F_X1_keptAt [.inr (.inr (.inl (g, 0))), .inl (nI i), .inl x6] σ5) fun x8 σ7 => some (some (.inl x8), σ7)) = some (some (.inl (S_gives ρ i)), σ) := by
    rw [c_placeGiven hg σ R hi, bi_s]
    unfold S_gives
    rcases S_from_or ρ i with e | ⟨j, hj, e⟩
    · rw [e, c_keptAt_m hg σ R hi, bi_s, if_pos rfl]
    · rw [e, c_keptAt hg σ R hi hj, bi_s, if_neg (nm (by omega)), nI_clamp (by omega)]
  rw [e_X1_tellSill hg, last]
  simp only [ck_n _ i8 (show 8 < 2 ^ 31 by omega), nI_clamp (show i < 2 ^ 31 by omega), b0, b1, b2, b3, c_mostHeld, c_keptSet hg σ R hi, bi_s]
  unfold S_told
  repeat' split
  all_goals rfl
theorem sim_of (a1 a2 : Int32) : SIM F_X4_of F_X5_of [.inl a1, .inl a2] := by
  intro σ I
  have R := INV_R I
  have W := R.1
  have hS := W.2.1
  by_cases h1 : nI 0 ≤ a1 ∧ a1 < nI (nS (σ 6 1))
  · by_cases h2 : nI 0 ≤ a2 ∧ a2 < nI 7
    · obtain ⟨i, hi, rfl⟩ := in_of (by omega) h1
      apply sim_mk (h3 := I)
      · rw [e_X4_of, c_isSill_t hq1 σ R h1, bi_s, if_neg n10, cw_t σ (by omega) h2, bi_s, if_neg n10, c_tellSill hq1 _ σ R hi, bi_s]
      · rw [e_X5_of, ms_t σ W h1, bi_s, if_neg n10, mw_t σ (by omega) h2, bi_s, if_neg n10, m_told _ σ (WR_okS W hi), bi_s]
    · obtain ⟨A, e1, σ2, e2, I2⟩ := find0 I
      apply sim_mk (h3 := I2)
      · rw [e_X4_of, c_isSill_t hq1 σ R h1, bi_s, if_neg n10, cw_f σ (by omega) h2, bi_s, if_pos rfl, e1, bi_s]
      · rw [e_X5_of, ms_t (va_up σ 0 A) W h1, bi_s, if_neg n10, mw_f _ (by omega) h2, bi_s, if_pos rfl, e2, bi_s]
  · obtain ⟨A, e1, σ2, e2, I2⟩ := find0 I
    apply sim_mk (h3 := I2)
    · rw [e_X4_of, c_isSill_f hq1 σ R h1, bi_s, if_pos rfl, e1, bi_s]
    · rw [e_X5_of, ms_f (va_up σ 0 A) W h1, bi_s, if_pos rfl, e2, bi_s]
theorem sim_word (a1 a2 : Int32) : SIM F_X4_word F_X5_word [.inl a1, .inl a2] := by
  intro σ I
  have R := INV_R I
  have W := R.1
  have hS := W.2.1
  by_cases h1 : nI 0 ≤ a1 ∧ a1 < nI (nS (σ 6 1))
  · obtain ⟨i, hi, rfl⟩ := in_of (by omega) h1
    have ok := okS_k (WR_okS W hi)
    by_cases h2 : nI 0 ≤ a2
    · by_cases h3 : a2 < nI (nK (σ 6 1) i)
      · obtain ⟨k, hk, rfl⟩ := in_of (by omega) ⟨h2, h3⟩
        obtain ⟨w, hw, ew⟩ := (WR_S W hi).2.2.2.2 k hk
        apply sim_mk (h3 := I)
        · rw [e_X4_word, c_isSill_t hq1 σ R h1, bi_s, if_neg n10, if_pos h2, c_keptAt hq1 σ R hi hk, bi_s, ew, if_neg (nm (by omega))]
        · rw [e_X5_word, ms_t σ W h1, bi_s, if_neg n10, if_pos h2, m_sillIs σ (WR_i8 W hi) (by omega), bi_s, ok.1, if_neg (Int32.not_le.mpr h3), nI_add, m_sillIs σ (WR_i8 W hi) (by omega), bi_s, ew]
      · obtain ⟨A, e1, σ2, e2, I2⟩ := find3 I
        have i8 := WR_i8 W hi
        apply sim_mk (h3 := I2)
        · rw [e_X4_word, c_isSill_t hq1 σ R h1, bi_s, if_neg n10, if_pos h2, e_X1_keptAt hq1, R.2.1.2.1, hS.1, below_t σ h1, bi_s, if_neg n10, ck_n _ i8 (by omega), nI_clamp (by omega), (RQ_S R hi).2.2.2.1, ok.1, below_f σ (fun q => h3 q.2), bi_s, if_pos rfl, bi_s, if_pos rfl, e1, bi_s]
        · have e : (va_up σ 0 A) 6 1 (sx i 3) = nI (nK (σ 6 1) i) := ok.1
          rw [e_X5_word, ms_t (va_up σ 0 A) W h1, bi_s, if_neg n10, if_pos h2, m_sillIs _ i8 (by omega), bi_s, e, if_pos (Int32.not_lt.mp h3), e2, bi_s]
    · obtain ⟨A, e1, σ2, e2, I2⟩ := find0 I
      apply sim_mk (h3 := I2)
      · rw [e_X4_word, c_isSill_t hq1 σ R h1, bi_s, if_neg n10, if_neg h2, e1, bi_s]
      · rw [e_X5_word, ms_t (va_up σ 0 A) W h1, bi_s, if_neg n10, if_neg h2, e2, bi_s]
  · obtain ⟨A, e1, σ2, e2, I2⟩ := find0 I
    apply sim_mk (h3 := I2)
    · rw [e_X4_word, c_isSill_f hq1 σ R h1, bi_s, if_pos rfl, e1, bi_s]
    · rw [e_X5_word, ms_f (va_up σ 0 A) W h1, bi_s, if_pos rfl, e2, bi_s]
