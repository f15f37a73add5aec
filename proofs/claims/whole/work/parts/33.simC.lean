/-! public methods: the quarter, part 3 -/
theorem k20 : ¬ nI 2 = nI 0 := by decide
theorem k21 : ¬ nI 2 = nI 1 := by decide
theorem k30 : ¬ nI 3 = nI 0 := by decide
theorem k31 : ¬ nI 3 = nI 1 := by decide
theorem k32 : ¬ nI 3 = nI 2 := by decide
theorem x_replace {c n i : Nat} (hc : ts_rq c n) (hi : i < n) (v : Int32) (σ : ts_S) : F_X4_replace [.inr (.inr (.inl (1, c))), .inl (nI i), .inl v] σ = some (some (.inl (σ 1 c i)), va_up σ 1 (qu (σ 1) c i v)) := by
  have hn : n < 2 ^ 31 := by rcases hc with ⟨_, rfl⟩ | ⟨_, rfl⟩ | ⟨_, rfl⟩ | ⟨_, rfl⟩ | ⟨_, rfl⟩ | ⟨_, rfl⟩ <;> omega
  rw [e_X4_replace hc, below_n σ hi hn, bi_s, if_neg n10, ck_n _ hi hn, ni_s, ck_n _ hi hn, nw_s, nI_clamp (by omega), qu_up]
theorem kind_x (a : Int32) : ∃ x, ∀ σ, F_X5_isKind [.inl a] σ = some (some (.inl x), σ) := by
  by_cases h : nI 0 ≤ a ∧ a < nI 7
  · exact ⟨_, fun σ => kind_t σ h⟩
  · exact ⟨_, fun σ => kind_f σ h⟩
theorem set_x (a : Int32) : ∃ x, ∀ σ, F_X5_isSet [.inl a] σ = some (some (.inl x), σ) := by
  by_cases h : nI 0 ≤ a ∧ a < nI 4096
  · exact ⟨_, fun σ => set_t σ h⟩
  · exact ⟨_, fun σ => set_f σ h⟩
theorem mw_x (a : Int32) (l h : Int32) : ∃ x, ∀ σ, F_X5_within [.inl a, .inl l, .inl h] σ = some (some (.inl x), σ) := by
  by_cases q : l ≤ a ∧ a ≤ h
  · exact ⟨_, fun σ => mwithin_t σ q⟩
  · exact ⟨_, fun σ => mwithin_f σ q⟩
theorem ms_x (a : Int32) (ρ : Nat → Int32) (W : WR ρ) : ∃ x, ∀ σ : ts_S, σ 6 1 = ρ → F_X5_isSill [.inr (.inr (.inl (6, 0))), .inl a] σ = some (some (.inl x), σ) := by
  by_cases q : nI 0 ≤ a ∧ a < nI (nS ρ)
  · exact ⟨_, fun σ e => ms_t σ (by rw [e]; exact W) (by rw [e]; exact q)⟩
  · exact ⟨_, fun σ e => ms_f σ (by rw [e]; exact W) (by rw [e]; exact q)⟩
theorem sim_change (a1 a2 a3 : Int32) : SIM F_X4_change F_X5_change [.inl a1, .inl a2, .inl a3] := by
  intro σ I
  have R := INV_R I
  have W := R.1
  have hS := W.2.1
  by_cases h1 : nI 0 ≤ a1 ∧ a1 < nI (nS (σ 6 1))
  · obtain ⟨i, hi, rfl⟩ := in_of (by omega) h1
    have i8 := WR_i8 W hi
    have s0 : sx i 0 < 111 := by unfold sx; omega
    have s1 : sx i 1 < 111 := by unfold sx; omega
    have s2 : sx i 2 < 111 := by unfold sx; omega
    obtain ⟨b0, b1, b2, b3, b4⟩ := RQ_S R hi
    by_cases q0 : a2 = nI 0
    · subst q0
      by_cases h3 : nI 0 ≤ a3 ∧ a3 < nI 7
      · obtain ⟨k, hk, rfl⟩ := in_of (by omega) h3
        have W' := WR_sf W hi (f := 0) (by omega) (v := nI k) (fun _ => ⟨k, hk, rfl⟩) (fun h => by omega) (fun h => by omega)
        apply sim_mk (h3 := INV_q I (RQ_sx R hi (f := 0) (by omega) W'))
        · simp only [e_X4_change, c_isSill_t hq1 σ R h1, bi_s, n10, reduceIte, below_t σ h3, x_replace (Or.inl ⟨rfl, rfl⟩ : ts_rq 2 8) i8]; rfl
        · simp only [e_X5_change, kind_t _ h3, ms_t (va_up σ 1 _) W h1, bi_s, n10, reduceIte, m_sillAt, m_become _ _ s0, b0]; rfl
      · obtain ⟨A, e1, σ2, e2, I2⟩ := find0 I
        apply sim_mk (r := (Int32.ofNat 4293967295)) (σ1 := va_up σ 0 A) (h3 := I2)
        · simp only [e_X4_change, c_isSill_t hq1 σ R h1, bi_s, n10, reduceIte, below_f σ h3, e1]
        · simp only [e_X5_change, kind_f _ h3, ms_t (va_up σ 0 A) W h1, bi_s, n10, reduceIte, e2]
    · by_cases q2 : a2 = nI 2
      · subst q2
        by_cases h3 : nI 0 ≤ a3 ∧ a3 < nI 10000
        · obtain ⟨k, hk, rfl⟩ := in_of (by omega) h3
          have W' := WR_sf W hi (f := 1) (by omega) (v := nI k) (fun h => by omega) (fun _ => ⟨k, by omega, rfl⟩) (fun h => by omega)
          apply sim_mk (h3 := INV_q I (RQ_sx R hi (f := 1) (by omega) W'))
          · simp only [e_X4_change, c_isSill_t hq1 σ R h1, bi_s, n10, k20, k21, reduceIte, cw_t (n := 9999) σ (by omega) h3, x_replace (Or.inr (Or.inl ⟨rfl, rfl⟩) : ts_rq 3 8) i8]; rfl
          · simp only [e_X5_change, mw_t (n := 9999) _ (by omega) h3, ms_t (va_up σ 1 _) W h1, bi_s, n10, k20, reduceIte, m_sillAt, m_become _ _ s1, b1]; rfl
        · obtain ⟨A, e1, σ2, e2, I2⟩ := find0 I
          apply sim_mk (r := (Int32.ofNat 4293967295)) (σ1 := va_up σ 0 A) (h3 := I2)
          · simp only [e_X4_change, c_isSill_t hq1 σ R h1, bi_s, n10, k20, k21, reduceIte, cw_f (n := 9999) σ (by omega) h3, e1]
          · simp only [e_X5_change, mw_f (n := 9999) _ (by omega) h3, ms_t (va_up σ 0 A) W h1, bi_s, n10, k20, reduceIte, e2]
      · by_cases q3 : a2 = nI 3
        · subst q3
          by_cases h3 : nI 0 ≤ a3 ∧ a3 < nI 2
          · obtain ⟨k, hk, rfl⟩ := in_of (by omega) h3
            have W' := WR_sf W hi (f := 2) (by omega) (v := nI k) (fun h => by omega) (fun h => by omega) (fun _ => ⟨k, by omega, rfl⟩)
            apply sim_mk (h3 := INV_q I (RQ_sx R hi (f := 2) (by omega) W'))
            · simp only [e_X4_change, c_isSill_t hq1 σ R h1, bi_s, n10, k30, k31, k32, reduceIte, cw_t (n := 1) σ (by omega) h3, x_replace (Or.inr (Or.inr (Or.inl ⟨rfl, rfl⟩)) : ts_rq 4 8) i8]; rfl
            · simp only [e_X5_change, mw_t (n := 1) _ (by omega) h3, ms_t (va_up σ 1 _) W h1, bi_s, n10, k30, k32, reduceIte, m_sillAt, m_become _ _ s2, b2]; rfl
          · obtain ⟨A, e1, σ2, e2, I2⟩ := find0 I
            apply sim_mk (r := (Int32.ofNat 4293967295)) (σ1 := va_up σ 0 A) (h3 := I2)
            · simp only [e_X4_change, c_isSill_t hq1 σ R h1, bi_s, n10, k30, k31, k32, reduceIte, cw_f (n := 1) σ (by omega) h3, e1]
            · simp only [e_X5_change, mw_f (n := 1) _ (by omega) h3, ms_t (va_up σ 0 A) W h1, bi_s, n10, k30, k32, reduceIte, e2]
        · obtain ⟨A, e1, σ2, e2, I2⟩ := find0 I
          apply sim_mk (r := (Int32.ofNat 4293967295)) (σ1 := va_up σ 0 A) (h3 := I2)
          · simp only [e_X4_change, c_isSill_t hq1 σ R h1, bi_s, n10, q0, q2, q3, reduceIte, e1, ite_self]
          · simp only [e_X5_change, ms_t (va_up σ 0 A) W h1, bi_s, n10, q0, q2, q3, reduceIte, e2]
  · obtain ⟨A, e1, σ2, e2, I2⟩ := find0 I
    obtain ⟨x, hx⟩ := kind_x a3
    obtain ⟨y, hy⟩ := mw_x a3 (nI 0) (nI 9999)
    obtain ⟨z, hz⟩ := mw_x a3 (nI 0) (nI 1)
    apply sim_mk (r := (Int32.ofNat 4293967295)) (σ1 := va_up σ 0 A) (h3 := I2)
    · simp only [e_X4_change, c_isSill_f hq1 σ R h1, bi_s, reduceIte, e1]
    · simp only [e_X5_change, hx, hy, hz, ms_f (va_up σ 0 A) W h1, bi_s, reduceIte, e2, ite_self]
theorem c_keep_n {g : Nat} {ρ : Nat → Int32} (hg : ts_q g) {i : Nat} (w : Int32) (σ : ts_S) (R : RQ (σ g) ρ) (hi : i < nS ρ) (hm : ¬ nK ρ i < 5) : F_X1_keep [.inr (.inr (.inl (g, 0))), .inl (nI i), .inl w] σ = some (some (.inl (nI 0)), σ) := by
  have i8 := WR_i8 R.1 hi
  have ok := okS_k (WR_okS R.1 hi)
  have e5 : σ g 5 i = nI (nK ρ i) := by rw [(RQ_S R hi).2.2.2.1, ok.1]
  rw [e_X1_keep hg, ck_n _ i8 (by omega), nI_clamp (show i < 2 ^ 31 by omega), e5, if_neg (nI_nlt (by omega) (by omega))]
theorem sim_lay (a1 a2 : Int32) : SIM F_X4_lay F_X5_lay [.inl a1, .inl a2] := by
  intro σ I
  have R := INV_R I
  have W := R.1
  have hS := W.2.1
  by_cases h1 : nI 0 ≤ a1 ∧ a1 < nI (nS (σ 6 1))
  · by_cases h2 : nI 0 ≤ a2 ∧ a2 < nI 12
    · obtain ⟨i, hi, rfl⟩ := in_of (by omega) h1
      obtain ⟨w, hw, rfl⟩ := in_of (by omega) h2
      have i8 := WR_i8 W hi
      have ok := okS_k (WR_okS W hi)
      by_cases h3 : nK (σ 6 1) i < 5
      · have R1 := RQ_lay R hi h3 hw
        apply sim_mk (h3 := INV_q I R1)
        · rw [e_X4_lay, c_isSill_t hq1 σ R h1, bi_s, if_neg n10, below_t σ h2, bi_s, if_neg n10, c_keep hq1 _ σ R hi h3, bi_s, if_neg n10, ck_n _ i8 (by omega), nI_clamp (by omega), up_at, qu_at]
        · have e : (va_up σ 1 (qu (qu (σ 1) 6 (5 * i + nK (σ 6 1) i) (nI w)) 5 i (σ 1 5 i + nI 1))) 6 1 (sx i 3) = nI (nK (σ 6 1) i) := ok.1
          rw [e_X5_lay, ms_t (va_up σ 1 _) W h1, bi_s, if_neg n10, wordn_t _ h2, bi_s, if_neg n10, m_sillIs _ i8 (by omega), bi_s, e, if_neg (ki_eq (by omega) (by omega) (by omega)), m_lays _ (va_up σ 1 _) (WR_okS W hi) h3, bi_s, (RQ_S R hi).2.2.2.1]; rfl
      · obtain ⟨A, e1, σ2, e2, I2⟩ := find1 I
        apply sim_mk (h3 := I2)
        · rw [e_X4_lay, c_isSill_t hq1 σ R h1, bi_s, if_neg n10, below_t σ h2, bi_s, if_neg n10, c_keep_n hq1 _ σ R hi h3, bi_s, if_pos rfl, e1, bi_s]
        · have e : (va_up σ 0 A) 6 1 (sx i 3) = nI (nK (σ 6 1) i) := ok.1
          rw [e_X5_lay, ms_t (va_up σ 0 A) W h1, bi_s, if_neg n10, wordn_t _ h2, bi_s, if_neg n10, m_sillIs _ i8 (by omega), bi_s, e, if_pos (by congr 1; omega), e2, bi_s]
    · obtain ⟨A, e1, σ2, e2, I2⟩ := find0 I
      apply sim_mk (h3 := I2)
      · rw [e_X4_lay, c_isSill_t hq1 σ R h1, bi_s, if_neg n10, below_f σ h2, bi_s, if_pos rfl, e1, bi_s]
      · rw [e_X5_lay, ms_t (va_up σ 0 A) W h1, bi_s, if_neg n10, wordn_f _ h2, bi_s, if_pos rfl, e2, bi_s]
  · obtain ⟨A, e1, σ2, e2, I2⟩ := find0 I
    apply sim_mk (h3 := I2)
    · rw [e_X4_lay, c_isSill_f hq1 σ R h1, bi_s, if_pos rfl, e1, bi_s]
    · rw [e_X5_lay, ms_f (va_up σ 0 A) W h1, bi_s, if_pos rfl, e2, bi_s]
theorem c_tellPerson {g : Nat} {ρ : Nat → Int32} (hg : ts_q g) {p f : Nat} (hf : f < 3) (σ : ts_S) (R : RQ (σ g) ρ) (hp : p < nP ρ) : F_X1_tellPerson [.inr (.inr (.inl (g, 0))), .inl (nI p), .inl (nI f)] σ = some (some (.inl (ρ (px p f))), σ) := by
  have p6 := WR_p6 R.1 hp
  obtain ⟨b0, b1, b2⟩ := RQ_P R hp
  rw [e_X1_tellPerson hg, ck_n _ p6 (by omega), ck_n _ p6 (by omega), ck_n _ p6 (by omega), nI_clamp (by omega), b0, b1, b2]
  rcases (show f = 0 ∨ f = 1 ∨ f = 2 by omega) with rfl | rfl | rfl
  · rw [if_pos rfl]
  · rw [if_neg n10, if_pos rfl]
  · rw [if_neg k20, if_neg k21]
theorem sim_ofPerson (a1 a2 : Int32) : SIM F_X4_ofPerson F_X5_ofPerson [.inl a1, .inl a2] := by
  intro σ I
  have R := INV_R I
  have W := R.1
  have hS := W.2.2.1
  by_cases h1 : nI 0 ≤ a1 ∧ a1 < nI (nP (σ 6 1))
  · by_cases h2 : nI 0 ≤ a2 ∧ a2 < nI 3
    · obtain ⟨i, hi, rfl⟩ := in_of (by omega) h1
      obtain ⟨w, hw, rfl⟩ := in_of (by omega) h2
      apply sim_mk (h3 := I)
      · rw [e_X4_ofPerson, c_isPerson_t hq1 σ R h1, bi_s, if_neg n10, cw_t (n := 2) σ (by omega) h2, bi_s, if_neg n10, c_tellPerson hq1 hw σ R hi, bi_s]
      · rw [e_X5_ofPerson, mp_t σ W h1, bi_s, if_neg n10, mw_t (n := 2) σ (by omega) h2, bi_s, if_neg n10, m_personIs σ (WR_p6 W hi) hw, bi_s]
    · obtain ⟨A, e1, σ2, e2, I2⟩ := find0 I
      apply sim_mk (h3 := I2)
      · rw [e_X4_ofPerson, c_isPerson_t hq1 σ R h1, bi_s, if_neg n10, cw_f (n := 2) σ (by omega) h2, bi_s, if_pos rfl, e1, bi_s]
      · rw [e_X5_ofPerson, mp_t (va_up σ 0 A) W h1, bi_s, if_neg n10, mw_f (n := 2) _ (by omega) h2, bi_s, if_pos rfl, e2, bi_s]
  · obtain ⟨A, e1, σ2, e2, I2⟩ := find0 I
    apply sim_mk (h3 := I2)
    · rw [e_X4_ofPerson, c_isPerson_f hq1 σ R h1, bi_s, if_pos rfl, e1, bi_s]
    · rw [e_X5_ofPerson, mp_f (va_up σ 0 A) W h1, bi_s, if_pos rfl, e2, bi_s]
theorem sim_send (a1 a2 a3 : Int32) : SIM F_X4_send F_X5_send [.inl a1, .inl a2, .inl a3] := by
  intro σ I
  have R := INV_R I
  have W := R.1
  have hP := W.2.2.1
  have hS := W.2.1
  by_cases h1 : nI 0 ≤ a1 ∧ a1 < nI (nP (σ 6 1))
  · obtain ⟨p, hp, rfl⟩ := in_of (by omega) h1
    have p6 := WR_p6 W hp
    have s0 : px p 0 < 111 := by unfold px; omega
    have s1 : px p 1 < 111 := by unfold px; omega
    have s2 : px p 2 < 111 := by unfold px; omega
    obtain ⟨b0, b1, b2⟩ := RQ_P R hp
    by_cases q0 : a2 = nI 0
    · subst q0
      by_cases h3 : nI 0 ≤ a3 ∧ a3 < nI 4096
      · obtain ⟨k, hk, rfl⟩ := in_of (by omega) h3
        have W' := WR_has W hp (v := nI k) ⟨k, hk, rfl⟩
        apply sim_mk (h3 := INV_q I (RQ_px R hp (f := 0) (by omega) W'))
        · simp only [e_X4_send, c_isPerson_t hq1 σ R h1, bi_s, n10, reduceIte, cw_t (n := 4095) σ (by omega) h3, x_replace (Or.inr (Or.inr (Or.inr (Or.inl ⟨rfl, rfl⟩))) : ts_rq 7 6) p6]; rfl
        · simp only [e_X5_send, set_t _ h3, mp_t (va_up σ 1 _) W h1, bi_s, n10, reduceIte, m_personAt, m_become _ _ s0, b0]; rfl
      · obtain ⟨A, e1, σ2, e2, I2⟩ := find0 I
        apply sim_mk (r := (Int32.ofNat 4293967295)) (σ1 := va_up σ 0 A) (h3 := I2)
        · simp only [e_X4_send, c_isPerson_t hq1 σ R h1, bi_s, n10, reduceIte, cw_f (n := 4095) σ (by omega) h3, e1]
        · simp only [e_X5_send, set_f _ h3, mp_t (va_up σ 0 A) W h1, bi_s, n10, reduceIte, e2]
    · by_cases q1 : a2 = nI 1
      · subst q1
        by_cases h4 : a3 = -1
        · subst h4
          have W' := WR_in W hp (v := -1) (Or.inl rfl)
          apply sim_mk (h3 := INV_q I (RQ_px R hp (f := 1) (by omega) W'))
          · simp only [e_X4_send, c_isPerson_t hq1 σ R h1, bi_s, n10, reduceIte, x_replace (Or.inr (Or.inr (Or.inr (Or.inr (Or.inl ⟨rfl, rfl⟩)))) : ts_rq 8 6) p6]; rfl
          · simp only [e_X5_send, mp_t (va_up σ 1 _) W h1, bi_s, n10, reduceIte, m_personAt, m_become _ _ s1, b1]; rfl
        · by_cases h3 : nI 0 ≤ a3 ∧ a3 < nI (nS (σ 6 1))
          · obtain ⟨k, hk, rfl⟩ := in_of (by omega) h3
            have W' := WR_in W hp (v := nI k) (Or.inr ⟨k, hk, rfl⟩)
            apply sim_mk (h3 := INV_q I (RQ_px R hp (f := 1) (by omega) W'))
            · simp only [e_X4_send, c_isPerson_t hq1 σ R h1, bi_s, n10, h4, reduceIte, c_isSill_t hq1 σ R h3, x_replace (Or.inr (Or.inr (Or.inr (Or.inr (Or.inl ⟨rfl, rfl⟩)))) : ts_rq 8 6) p6]; rfl
            · simp only [e_X5_send, ms_t (va_up σ 1 _) W h3, mp_t (va_up σ 1 _) W h1, bi_s, n10, h4, reduceIte, m_personAt, m_become _ _ s1, b1]; rfl
          · obtain ⟨A, e1, σ2, e2, I2⟩ := find0 I
            apply sim_mk (r := (Int32.ofNat 4293967295)) (σ1 := va_up σ 0 A) (h3 := I2)
            · simp only [e_X4_send, c_isPerson_t hq1 σ R h1, bi_s, n10, h4, reduceIte, c_isSill_f hq1 σ R h3, e1]
            · simp only [e_X5_send, ms_f (va_up σ 0 A) W h3, mp_t (va_up σ 0 A) W h1, bi_s, n10, h4, reduceIte, e2]
      · by_cases q3 : a2 = nI 2
        · subst q3
          by_cases h3 : nI 0 ≤ a3 ∧ a3 < nI 10000
          · obtain ⟨k, hk, rfl⟩ := in_of (by omega) h3
            have W' := WR_crossed W hp (v := nI k) ⟨k, by omega, rfl⟩
            apply sim_mk (h3 := INV_q I (RQ_px R hp (f := 2) (by omega) W'))
            · simp only [e_X4_send, c_isPerson_t hq1 σ R h1, bi_s, n10, k20, k21, reduceIte, cw_t (n := 9999) σ (by omega) h3, x_replace (Or.inr (Or.inr (Or.inr (Or.inr (Or.inr ⟨rfl, rfl⟩)))) : ts_rq 9 6) p6]; rfl
            · simp only [e_X5_send, mw_t (n := 9999) _ (by omega) h3, mp_t (va_up σ 1 _) W h1, bi_s, n10, k20, k21, reduceIte, m_personAt, m_become _ _ s2, b2]; rfl
          · obtain ⟨A, e1, σ2, e2, I2⟩ := find0 I
            apply sim_mk (r := (Int32.ofNat 4293967295)) (σ1 := va_up σ 0 A) (h3 := I2)
            · simp only [e_X4_send, c_isPerson_t hq1 σ R h1, bi_s, n10, k20, k21, reduceIte, cw_f (n := 9999) σ (by omega) h3, e1]
            · simp only [e_X5_send, mw_f (n := 9999) _ (by omega) h3, mp_t (va_up σ 0 A) W h1, bi_s, n10, k20, k21, reduceIte, e2]
        · obtain ⟨A, e1, σ2, e2, I2⟩ := find0 I
          apply sim_mk (r := (Int32.ofNat 4293967295)) (σ1 := va_up σ 0 A) (h3 := I2)
          · simp only [e_X4_send, c_isPerson_t hq1 σ R h1, bi_s, n10, q0, q1, q3, reduceIte, e1]
          · simp only [e_X5_send, mp_t (va_up σ 0 A) W h1, bi_s, n10, q0, q1, q3, reduceIte, e2]
  · obtain ⟨A, e1, σ2, e2, I2⟩ := find0 I
    obtain ⟨x, hx⟩ := set_x a3
    obtain ⟨y, hy⟩ := mw_x a3 (nI 0) (nI 9999)
    obtain ⟨z, hz⟩ := ms_x a3 (σ 6 1) W
    apply sim_mk (r := (Int32.ofNat 4293967295)) (σ1 := va_up σ 0 A) (h3 := I2)
    · simp only [e_X4_send, c_isPerson_f hq1 σ R h1, bi_s, reduceIte, e1]
    · simp only [e_X5_send, hx, hy, hz (va_up σ 0 A) rfl, mp_f (va_up σ 0 A) W h1, bi_s, reduceIte, e2, ite_self]
theorem sim_takes (a1 a2 : Int32) : SIM F_X4_takes F_X5_takes [.inl a1, .inl a2] := by
  intro σ I
  have R := INV_R I
  have W := R.1
  have hS := W.2.1
  by_cases h1 : nI 0 ≤ a1 ∧ a1 < nI (nS (σ 6 1))
  · by_cases h2 : nI 0 ≤ a2 ∧ a2 < nI 4096
    · obtain ⟨i, hi, rfl⟩ := in_of (by omega) h1
      have i8 := WR_i8 W hi
      rcases S_tk_or (σ 6 1 (sx i 0)) a2 (S_set (σ 6 1) i) with e | ⟨w, hw, e⟩
      · obtain ⟨A, e1, σ2, e2, I2⟩ := find3 I
        apply sim_mk (h3 := I2)
        · rw [e_X4_takes, c_isSill_t hq1 σ R h1, bi_s, if_neg n10, cw_t (n := 4095) σ (by omega) h2, bi_s, if_neg n10, ck_n _ i8 (by omega), c_keptSet hq1 σ R hi, bi_s, nI_clamp (by omega), (RQ_S R hi).1, c_wordTaken, bi_s, e, if_pos rfl, e1, bi_s]
        · have e' : S_takes ((va_up σ 0 A) 6 1) i a2 = -1 := e
          rw [e_X5_takes, ms_t (va_up σ 0 A) W h1, bi_s, if_neg n10, set_t _ h2, bi_s, if_neg n10, m_takesOf _ (va_up σ 0 A) (WR_okS W hi), bi_s, e', e_X5_orNone, if_neg m1ge, e2, bi_s, bi_s]
      · apply sim_mk (h3 := I)
        · rw [e_X4_takes, c_isSill_t hq1 σ R h1, bi_s, if_neg n10, cw_t (n := 4095) σ (by omega) h2, bi_s, if_neg n10, ck_n _ i8 (by omega), c_keptSet hq1 σ R hi, bi_s, nI_clamp (by omega), (RQ_S R hi).1, c_wordTaken, bi_s, e, if_neg (nm (by omega))]
        · have e' : S_takes (σ 6 1) i a2 = nI w := e
          rw [e_X5_takes, ms_t σ W h1, bi_s, if_neg n10, set_t _ h2, bi_s, if_neg n10, m_takesOf _ σ (WR_okS W hi), bi_s, e', e_X5_orNone, if_pos (nge (by omega)), bi_s]
    · obtain ⟨A, e1, σ2, e2, I2⟩ := find0 I
      apply sim_mk (h3 := I2)
      · rw [e_X4_takes, c_isSill_t hq1 σ R h1, bi_s, if_neg n10, cw_f (n := 4095) σ (by omega) h2, bi_s, if_pos rfl, e1, bi_s]
      · rw [e_X5_takes, ms_t (va_up σ 0 A) W h1, bi_s, if_neg n10, set_f _ h2, bi_s, if_pos rfl, e2, bi_s]
  · obtain ⟨A, e1, σ2, e2, I2⟩ := find0 I
    apply sim_mk (h3 := I2)
    · rw [e_X4_takes, c_isSill_f hq1 σ R h1, bi_s, if_pos rfl, e1, bi_s]
    · rw [e_X5_takes, ms_f (va_up σ 0 A) W h1, bi_s, if_pos rfl, e2, bi_s]
theorem sim_cross (a1 a2 : Int32) : SIM F_X4_cross F_X5_cross [.inl a1, .inl a2] := by
  intro σ I
  have R := INV_R I
  have W := R.1
  have hS := W.2.1
  have hP := W.2.2.1
  by_cases h1 : nI 0 ≤ a1 ∧ a1 < nI (nP (σ 6 1))
  · by_cases h2 : nI 0 ≤ a2 ∧ a2 < nI (nS (σ 6 1))
    · obtain ⟨p, hp, rfl⟩ := in_of (by omega) h1
      obtain ⟨i, hi, rfl⟩ := in_of (by omega) h2
      have i8 := WR_i8 W hi
      have p6 := WR_p6 W hp
      by_cases h3 : S_may (σ 6 1) p i
      · obtain ⟨τ, e1, R1⟩ := c_cross hq1 σ R hp hi h3
        apply sim_mk (h3 := INV_q I R1)
        · rw [e_X4_cross, c_isPerson_t hq1 σ R h1, bi_s, if_neg n10, c_isSill_t hq1 σ R h2, bi_s, if_neg n10, c_may_t hq1 σ R hp hi h3, bi_s, if_neg n10, e1, bi_s]
        · rw [e_X5_cross, mp_t (va_up σ 1 τ) W h1, bi_s, if_neg n10, ms_t (va_up σ 1 τ) W h2, bi_s, if_neg n10, m_may_t (va_up σ 1 τ) p6 i8 h3, bi_s, if_neg n10, m_crosses (va_up σ 1 τ) p6 (WR_okS W hi), bi_s]; rfl
      · obtain ⟨A, e1, σ2, e2, I2⟩ := find4 I
        apply sim_mk (h3 := I2)
        · rw [e_X4_cross, c_isPerson_t hq1 σ R h1, bi_s, if_neg n10, c_isSill_t hq1 σ R h2, bi_s, if_neg n10, c_may_f hq1 σ R hp hi h3, bi_s, if_pos rfl, e1, bi_s]
        · rw [e_X5_cross, mp_t (va_up σ 0 A) W h1, bi_s, if_neg n10, ms_t (va_up σ 0 A) W h2, bi_s, if_neg n10, m_may_f (va_up σ 0 A) p6 i8 h3, bi_s, if_pos rfl, e2, bi_s]
    · obtain ⟨A, e1, σ2, e2, I2⟩ := find0 I
      apply sim_mk (h3 := I2)
      · rw [e_X4_cross, c_isPerson_t hq1 σ R h1, bi_s, if_neg n10, c_isSill_f hq1 σ R h2, bi_s, if_pos rfl, e1, bi_s]
      · rw [e_X5_cross, mp_t (va_up σ 0 A) W h1, bi_s, if_neg n10, ms_f (va_up σ 0 A) W h2, bi_s, if_pos rfl, e2, bi_s]
  · obtain ⟨A, e1, σ2, e2, I2⟩ := find0 I
    apply sim_mk (h3 := I2)
    · rw [e_X4_cross, c_isPerson_f hq1 σ R h1, bi_s, if_pos rfl, e1, bi_s]
    · rw [e_X5_cross, mp_f (va_up σ 0 A) W h1, bi_s, if_pos rfl, e2, bi_s]
theorem in_of1 {a : Int32} {n : Nat} (hn : n < 2 ^ 31) (h : nI 1 ≤ a ∧ a ≤ nI n) : ∃ j, 1 ≤ j ∧ j ≤ n ∧ a = nI j := by
  obtain ⟨j, hj, rfl⟩ := in_ofw hn ⟨Int32.le_trans (by decide) h.1, h.2⟩
  exact ⟨j, (nI_leI (by omega) (by omega)).mp h.1, hj, rfl⟩
theorem sim_go (a1 : Int32) : SIM F_X4_go F_X5_go [.inl a1] := by
  intro σ I
  have R := INV_R I
  have W := R.1
  have hd := WR_d W
  by_cases h1 : nI 1 ≤ a1 ∧ a1 ≤ nI 60
  · obtain ⟨n, hn1, hn, rfl⟩ := in_of1 (by omega) h1
    by_cases h2 : σ 6 1 0 + nI n ≤ nI 99999
    · obtain ⟨τ, e1, R1⟩ := c_passDays hq1 (n := n) σ (by omega) R
      apply sim_mk (h3 := INV_q I R1)
      · rw [e_X4_go, within_t σ h1, bi_s, if_neg n10, R.2.1.1, if_pos h2, e1, bv_s, up_at]
      · have e : (va_up σ 1 τ) 6 1 0 = σ 6 1 0 := rfl
        rw [e_X5_go, mwithin_t _ h1, bi_s, if_neg n10, ck_n _ (by omega) (by omega), e, if_pos h2, m_daysGo (va_up σ 1 τ) (by omega) W, bv_s, ck_n _ (by omega) (by omega), R1.2.1.2.2.2.2]; rfl
    · obtain ⟨A, e1, σ2, e2, I2⟩ := find4 I
      apply sim_mk (h3 := I2)
      · rw [e_X4_go, within_t σ h1, bi_s, if_neg n10, R.2.1.1, if_neg h2, e1, bi_s]
      · have e : (va_up σ 0 A) 6 1 0 = σ 6 1 0 := rfl
        rw [e_X5_go, mwithin_t _ h1, bi_s, if_neg n10, ck_n _ (by omega) (by omega), e, if_neg h2, e2, bi_s]
  · obtain ⟨A, e1, σ2, e2, I2⟩ := find0 I
    apply sim_mk (h3 := I2)
    · rw [e_X4_go, within_f σ h1, bi_s, if_pos rfl, e1, bi_s]
    · rw [e_X5_go, mwithin_f _ h1, bi_s, if_pos rfl, e2, bi_s]
theorem sim_seed (a1 : Int32) : SIM F_X4_seed F_X5_seed [.inl a1] := by
  intro σ I
  have R := INV_R I
  have W' := WR_head R.1 (a := 2) (v := a1) (by omega) (by omega) (by omega) (fun h => by omega) (fun h => by omega) (fun h => by omega) (fun h => by omega)
  apply sim_mk (h3 := INV_q I (RQ_head R (c := 0) (j := 3) (a := 2) W' (by omega)))
  · rw [e_X4_seed, ni_s, nw_s, qu_up]
  · rw [e_X5_seed, m_become _ _ (by omega), bi_s, R.2.1.2.2.1]; rfl
theorem sim_hold (a1 a2 : Int32) : SIM F_X4_hold F_X5_hold [.inl a1, .inl a2] := by
  intro σ I
  have R := INV_R I
  have W := R.1
  have hS := W.2.1
  by_cases h1 : nI 0 ≤ a1 ∧ a1 < nI 10
  · obtain ⟨i, hi, rfl⟩ := in_of (by omega) h1
    by_cases h4 : a2 = -1
    · subst h4
      have W' := WR_head W (a := 11 + i) (v := -1) (by omega) (by omega) (by omega) (fun h => by omega) (fun h => by omega) (fun h => by omega) (fun h => Or.inl rfl)
      apply sim_mk (h3 := INV_q I (RQ_head R (c := 10) (j := i) (a := 11 + i) W' (by omega)))
      · rw [e_X4_hold, below_t σ h1, bi_s, if_neg n10, if_pos rfl, ck_n _ hi (by omega), nw_s, nI_clamp (by omega), qu_up]
      · rw [e_X5_hold, spot_t _ h1, bi_s, if_neg n10, if_pos rfl, nI_add, ck_n _ (by omega) (by omega), nw_s, nI_clamp (by omega), mr_up]; rfl
    · by_cases h2 : nI 0 ≤ a2 ∧ a2 < nI (nS (σ 6 1))
      · obtain ⟨s, hs, rfl⟩ := in_of (by omega) h2
        have W' := WR_head W (a := 11 + i) (v := nI s) (by omega) (by omega) (by omega) (fun h => by omega) (fun h => by omega) (fun h => by omega) (fun h => Or.inr ⟨s, hs, rfl⟩)
        apply sim_mk (h3 := INV_q I (RQ_head R (c := 10) (j := i) (a := 11 + i) W' (by omega)))
        · rw [e_X4_hold, below_t σ h1, bi_s, if_neg n10, if_neg h4, c_isSill_t hq1 σ R h2, bi_s, if_neg n10, ck_n _ hi (by omega), nw_s, nI_clamp (by omega), qu_up]
        · rw [e_X5_hold, spot_t _ h1, bi_s, if_neg n10, if_neg h4, ms_t (va_up σ 1 _) W h2, bi_s, if_neg n10, nI_add, ck_n _ (by omega) (by omega), nw_s, nI_clamp (by omega), mr_up]; rfl
      · obtain ⟨A, e1, σ2, e2, I2⟩ := find0 I
        apply sim_mk (h3 := I2)
        · rw [e_X4_hold, below_t σ h1, bi_s, if_neg n10, if_neg h4, c_isSill_f hq1 σ R h2, bi_s, if_pos rfl, e1, bi_s]
        · rw [e_X5_hold, spot_t _ h1, bi_s, if_neg n10, if_neg h4, ms_f (va_up σ 0 A) W h2, bi_s, if_pos rfl, e2, bi_s]
  · obtain ⟨A, e1, σ2, e2, I2⟩ := find0 I
    apply sim_mk (h3 := I2)
    · rw [e_X4_hold, below_f σ h1, bi_s, if_pos rfl, e1, bi_s]
    · rw [e_X5_hold, spot_f _ h1, bi_s, if_pos rfl, e2, bi_s]
/-! kinds under kinds: 7 by 7 -/
def S_un (k j : Nat) : Nat := if k = j then 1 else if j = 0 then 1 else if k = 3 ∧ j = 2 then 1 else if k = 4 ∧ (j = 3 ∨ j = 2) then 1 else if k = 6 ∧ j = 1 then 1 else 0
theorem c_un_step {a b c d : Nat} (σ : ts_S) (h : d < 7) (hc : c < 7) (h2 : ¬ c = b) (hb : b < 7) : H_X0_isUnder_4 (nI a) (nI b) (nI c) (nI d) σ = H_X0_isUnder_4 (nI a) (nI b) (if c = 0 then -1 else nI (if c = 3 then 2 else if c = 4 then 3 else if c = 6 then 1 else 0)) (nI (d + 1)) σ := by
  rw [h_X0_isUnder_4, if_neg (nI_ge h (by omega)), if_neg (nm (by omega)), if_neg (ki_eq (by omega) (by omega) h2), e_X0_parentOf, nI_add]
  rcases (show c = 0 ∨ c = 1 ∨ c = 2 ∨ c = 3 ∨ c = 4 ∨ c = 5 ∨ c = 6 by omega) with rfl | rfl | rfl | rfl | rfl | rfl | rfl <;> rfl
theorem c_un_m {a b d : Nat} (σ : ts_S) (h : d < 7) : H_X0_isUnder_4 (nI a) (nI b) (-1) (nI d) σ = some (some (.inl (nI 0)), σ) := by
  rw [h_X0_isUnder_4, if_neg (nI_ge h (by omega)), if_pos rfl]
theorem c_un_e {a b d : Nat} (σ : ts_S) (h : d < 7) (hb : b < 7) : H_X0_isUnder_4 (nI a) (nI b) (nI b) (nI d) σ = some (some (.inl (nI 1)), σ) := by
  rw [h_X0_isUnder_4, if_neg (nI_ge h (by omega)), if_neg (nm (by omega)), if_pos rfl]
theorem m_un_step {a b c : Nat} (σ : ts_S) (hc : c < 7) (h2 : ¬ c = b) (hb : b < 7) : H_X5_isUnder_2 (nI a) (nI b) (nI c) σ = H_X5_isUnder_2 (nI a) (nI b) (if c = 0 then -1 else nI (if c = 3 then 2 else if c = 4 then 3 else if c = 6 then 1 else 0)) σ := by
  rw [h_X5_isUnder_2, if_neg (nn (by omega)), if_neg (ki_eq (by omega) (by omega) h2), e_X5_above]
  rcases (show c = 0 ∨ c = 1 ∨ c = 2 ∨ c = 3 ∨ c = 4 ∨ c = 5 ∨ c = 6 by omega) with rfl | rfl | rfl | rfl | rfl | rfl | rfl <;> rfl
theorem m_un_m {a b : Nat} (σ : ts_S) : H_X5_isUnder_2 (nI a) (nI b) (-1) σ = some (some (.inl (nI 0)), σ) := by
  rw [h_X5_isUnder_2, if_pos m1lt, if_pos m1lt]
theorem m_un_e {a b : Nat} (σ : ts_S) (hb : b < 7) : H_X5_isUnder_2 (nI a) (nI b) (nI b) σ = some (some (.inl (nI 1)), σ) := by
  rw [h_X5_isUnder_2, if_neg (nn (by omega)), if_pos rfl, if_neg (nn (by omega))]
theorem un_all {k j : Nat} (hk : k < 7) (hj : j < 7) (σ : ts_S) : ∃ u, u < 2 ∧ F_X0_isUnder [.inl (nI k), .inl (nI j)] σ = some (some (.inl (nI u)), σ) ∧ ∀ σ', F_X5_isUnder [.inl (nI k), .inl (nI j)] σ' = some (some (.inl (nI u)), σ') := by
  have z : ∀ (d c : Nat), c < 7 → (c = 0 ∧ d < 6 ∨ (c = 1 ∨ c = 2 ∨ c = 5) ∧ d < 5 ∨ (c = 3 ∨ c = 6) ∧ d < 4 ∨ c = 4 ∧ d < 3) → ∃ u, u < 2 ∧ H_X0_isUnder_4 (nI k) (nI j) (nI c) (nI d) σ = some (some (.inl (nI u)), σ) ∧ ∀ σ', H_X5_isUnder_2 (nI k) (nI j) (nI c) σ' = some (some (.inl (nI u)), σ') := by
    have z0 : ∀ d, d < 6 → ∃ u, u < 2 ∧ H_X0_isUnder_4 (nI k) (nI j) (nI 0) (nI d) σ = some (some (.inl (nI u)), σ) ∧ ∀ σ', H_X5_isUnder_2 (nI k) (nI j) (nI 0) σ' = some (some (.inl (nI u)), σ') := fun d hd => by
      by_cases e : 0 = j
      · subst e
        exact ⟨1, by omega, c_un_e σ (by omega) (by omega), fun σ' => m_un_e σ' (by omega)⟩
      · exact ⟨0, by omega, (c_un_step σ (by omega) (by omega) e hj).trans (c_un_m σ (by omega)), fun σ' => (m_un_step σ' (by omega) e hj).trans (m_un_m σ')⟩
    have z1 : ∀ d c, c = 1 ∨ c = 2 ∨ c = 5 → d < 5 → ∃ u, u < 2 ∧ H_X0_isUnder_4 (nI k) (nI j) (nI c) (nI d) σ = some (some (.inl (nI u)), σ) ∧ ∀ σ', H_X5_isUnder_2 (nI k) (nI j) (nI c) σ' = some (some (.inl (nI u)), σ') := fun d c hc hd => by
      by_cases e : c = j
      · subst e
        exact ⟨1, by omega, c_un_e σ (by omega) (by omega), fun σ' => m_un_e σ' (by omega)⟩
      · obtain ⟨u, hu, u1, u2⟩ := z0 (d + 1) (by omega)
        refine ⟨u, hu, (c_un_step σ (by omega) (by omega) e hj).trans ?_, fun σ' => (m_un_step σ' (by omega) e hj).trans ?_⟩
        · rw [if_neg (by omega), if_neg (by omega), if_neg (by omega), if_neg (by omega)]; exact u1
        · rw [if_neg (by omega), if_neg (by omega), if_neg (by omega), if_neg (by omega)]; exact u2 σ'
    have z2 : ∀ d c, c = 3 ∨ c = 6 → d < 4 → ∃ u, u < 2 ∧ H_X0_isUnder_4 (nI k) (nI j) (nI c) (nI d) σ = some (some (.inl (nI u)), σ) ∧ ∀ σ', H_X5_isUnder_2 (nI k) (nI j) (nI c) σ' = some (some (.inl (nI u)), σ') := fun d c hc hd => by
      by_cases e : c = j
      · subst e
        exact ⟨1, by omega, c_un_e σ (by omega) (by omega), fun σ' => m_un_e σ' (by omega)⟩
      · rcases hc with rfl | rfl
        · obtain ⟨u, hu, u1, u2⟩ := z1 (d + 1) 2 (by omega) (by omega)
          exact ⟨u, hu, (c_un_step σ (by omega) (by omega) e hj).trans u1, fun σ' => (m_un_step σ' (by omega) e hj).trans (u2 σ')⟩
        · obtain ⟨u, hu, u1, u2⟩ := z1 (d + 1) 1 (by omega) (by omega)
          exact ⟨u, hu, (c_un_step σ (by omega) (by omega) e hj).trans u1, fun σ' => (m_un_step σ' (by omega) e hj).trans (u2 σ')⟩
    intro d c hc h
    rcases h with ⟨rfl, h⟩ | ⟨h0, h⟩ | ⟨h0, h⟩ | ⟨rfl, h⟩
    · exact z0 d h
    · exact z1 d c h0 h
    · exact z2 d c h0 h
    · by_cases e : 4 = j
      · subst e
        exact ⟨1, by omega, c_un_e σ (by omega) (by omega), fun σ' => m_un_e σ' (by omega)⟩
      · obtain ⟨u, hu, u1, u2⟩ := z2 (d + 1) 3 (by omega) (by omega)
        exact ⟨u, hu, (c_un_step σ (by omega) (by omega) e hj).trans u1, fun σ' => (m_un_step σ' (by omega) e hj).trans (u2 σ')⟩
  obtain ⟨u, hu, u1, u2⟩ := z 0 k hk (by omega)
  exact ⟨u, hu, by rw [e_X0_isUnder]; exact u1, fun σ' => by rw [e_X5_isUnder]; exact u2 σ'⟩
theorem sim_as (a1 a2 : Int32) : SIM F_X4_as F_X5_as [.inl a1, .inl a2] := by
  intro σ I
  have R := INV_R I
  have W := R.1
  have hS := W.2.1
  by_cases h1 : nI 0 ≤ a1 ∧ a1 < nI 10
  · by_cases h2 : nI 0 ≤ a2 ∧ a2 < nI 7
    · obtain ⟨i, hi, rfl⟩ := in_of (by omega) h1
      obtain ⟨j, hj, rfl⟩ := in_of (by omega) h2
      have hp := R.2.2.2.1 i hi
      rcases W.2.2.2.2.2.1 i hi with e | ⟨s, hs, e⟩
      · obtain ⟨A, e1, σ2, e2, I2⟩ := find5 I
        apply sim_mk (h3 := I2)
        · rw [e_X4_as, below_t σ h1, bi_s, if_neg n10, below_t σ h2, bi_s, if_neg n10, ck_n _ hi (by omega), ni_s, nI_clamp (by omega), hp, e, c_isSill_f hq1 σ R (fun q => m1ge q.1), bi_s, if_pos rfl, e1, bi_s]
        · have e' : (va_up σ 0 A) 6 1 (11 + i) = -1 := e
          rw [e_X5_as, spot_t _ h1, bi_s, if_neg n10, kind_t _ h2, bi_s, if_neg n10, nI_add, ck_n _ (by omega) (by omega), ni_s, nI_clamp (by omega), e', if_neg m1ge, e2, bi_s]
      · have s8 := WR_i8 W hs
        obtain ⟨k, hk, ek⟩ := (WR_S W hs).1
        obtain ⟨u, hu, u1, u2⟩ := un_all hk hj σ
        have hlt : nI 0 ≤ nI s ∧ nI s < nI (nS (σ 6 1)) := ⟨nge (by omega), nI_lt hs (by omega)⟩
        rcases (show u = 0 ∨ u = 1 by omega) with rfl | rfl
        · obtain ⟨A, e1, σ2, e2, I2⟩ := find2 I
          apply sim_mk (h3 := I2)
          · rw [e_X4_as, below_t σ h1, bi_s, if_neg n10, below_t σ h2, bi_s, if_neg n10, ck_n _ hi (by omega), ni_s, nI_clamp (by omega), hp, e, c_isSill_t hq1 σ R hlt, bi_s, if_neg n10, ck_n _ s8 (by omega), nI_clamp (by omega), (RQ_S R hs).1, ek, u1, bi_s, if_pos rfl, e1, bi_s]
          · have e' : (va_up σ 0 A) 6 1 (11 + i) = nI s := e
            have ek' : (va_up σ 0 A) 6 1 (sx s 0) = nI k := ek
            rw [e_X5_as, spot_t _ h1, bi_s, if_neg n10, kind_t _ h2, bi_s, if_neg n10, nI_add, ck_n _ (by omega) (by omega), ni_s, nI_clamp (by omega), e', if_pos (nge (by omega)), m_sillIs _ s8 (by omega), bi_s, ek', u2, bi_s, if_pos rfl, e2, bi_s]
        · apply sim_mk (h3 := I)
          · rw [e_X4_as, below_t σ h1, bi_s, if_neg n10, below_t σ h2, bi_s, if_neg n10, ck_n _ hi (by omega), ni_s, nI_clamp (by omega), hp, e, c_isSill_t hq1 σ R hlt, bi_s, if_neg n10, ck_n _ s8 (by omega), nI_clamp (by omega), (RQ_S R hs).1, ek, u1, bi_s, if_neg n10]
          · rw [e_X5_as, spot_t _ h1, bi_s, if_neg n10, kind_t _ h2, bi_s, if_neg n10, nI_add, ck_n _ (by omega) (by omega), ni_s, nI_clamp (by omega), e, if_pos (nge (by omega)), m_sillIs _ s8 (by omega), bi_s, ek, u2, bi_s, if_neg n10]
    · obtain ⟨A, e1, σ2, e2, I2⟩ := find0 I
      apply sim_mk (h3 := I2)
      · rw [e_X4_as, below_t σ h1, bi_s, if_neg n10, below_f σ h2, bi_s, if_pos rfl, e1, bi_s]
      · rw [e_X5_as, spot_t _ h1, bi_s, if_neg n10, kind_f _ h2, bi_s, if_pos rfl, e2, bi_s]
  · obtain ⟨A, e1, σ2, e2, I2⟩ := find0 I
    apply sim_mk (h3 := I2)
    · rw [e_X4_as, below_f σ h1, bi_s, if_pos rfl, e1, bi_s]
    · rw [e_X5_as, spot_f _ h1, bi_s, if_pos rfl, e2, bi_s]
