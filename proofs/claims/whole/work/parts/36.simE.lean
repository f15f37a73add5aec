/-! what will be -/
theorem c_aheadc {ρ : Nat → Int32} {i n : Nat} (w : Int32) (σ : ts_S) (R : RQ (σ 1) ρ) (hi : i < nS ρ) (hn : n < 2 ^ 31) : ∃ τ, (ts_bv (F_X4_beginTrial [.inr (.inr (.inl (0, 0)))] σ) fun σ1 => ts_bv (F_X1_passDays [.inr (.inr (.inl (2, 0))), .inl (nI n)] σ1) fun σ2 => ts_bi (F_X1_tellSill [.inr (.inr (.inl (2, 0))), .inl (nI i), .inl w] σ2) fun x σ3 => some (some (.inl x), σ3)) = some (some (.inl (S_told (S_days ρ n) i w)), va_up σ 2 τ) := by
  obtain ⟨τ, e1, R1⟩ := c_begin σ R
  obtain ⟨τ2, e2, R2⟩ := c_passDays hq2 (n := n) (va_up σ 2 τ) hn (by rw [up_at]; exact R1)
  refine ⟨τ2, ?_⟩
  rw [e1, bv_s, e2, bv_s, up_uu, c_tellSill hq2 w (va_up σ 2 τ2) (by rw [up_at]; exact R2) (by rw [(S_days_np R.1 n).1]; exact hi), bi_s]
theorem m_aheadc {i n : Nat} (w : Int32) (σ : ts_S) (W : WR (σ 6 1)) (hi : i < nS (σ 6 1)) (hn : n < 2 ^ 31) : (ts_bv (F_X5_copyRow [.inr (.inr (.inl (6, 1))), .inr (.inr (.inl (6, 3)))] σ) fun σ1 => ts_bv (F_X5_daysGo [.inr (.inr (.inl (6, 0))), .inl (nI n)] σ1) fun σ2 => ts_bi (F_X5_told [.inr (.inr (.inl (6, 0))), .inl (nI i), .inl w] σ2) fun x σ3 => ts_bi (F_X5_putBack [.inr (.inr (.inl (6, 0))), .inl x] σ3) fun y σ4 => some (some (.inl y), σ4)) = some (some (.inl (S_told (S_days (σ 6 1) n) i w)), ma σ (cpR (σ 6 1) (σ 6 3))) := by
  have e1 : F_X5_daysGo [.inr (.inr (.inl (6, 0))), .inl (nI n)] (ma σ (cpR (σ 6 1) (σ 6 3))) = some (none, mr (ma σ (cpR (σ 6 1) (σ 6 3))) (S_days (σ 6 1) n)) := m_daysGo (ma σ (cpR (σ 6 1) (σ 6 3))) hn W
  have ok : okS (S_days (σ 6 1) n) i := WR_okS (WR_days W n) (by rw [(S_days_np W n).1]; exact hi)
  rw [m_save, bv_s, e1, bv_s, m_told w (mr (ma σ (cpR (σ 6 1) (σ 6 3))) (S_days (σ 6 1) n)) ok, bi_s, mr_rd, m_back _ (mr (ma σ (cpR (σ 6 1) (σ 6 3))) (S_days (σ 6 1) n)) (σ 6 1) (σ 6 3) rfl (fun b hb => S_days_hi W hb n), bi_s, mr_mr, mr_ma_id _ _ _ rfl]
theorem in_r {a : Int32} {l h : Nat} (hl : l < 2 ^ 31) (hh : h < 2 ^ 31) (q : nI l ≤ a ∧ a ≤ nI h) : ∃ j, l ≤ j ∧ j ≤ h ∧ a = nI j := by
  obtain ⟨j, hj, rfl⟩ := in_ofw hh ⟨Int32.le_trans (nge hl) q.1, q.2⟩
  exact ⟨j, (nI_leI hl (by omega)).mp q.1, hj, rfl⟩
theorem sim_ahead (a1 a2 a3 : Int32) : SIM F_X4_ahead F_X5_ahead [.inl a1, .inl a2, .inl a3] := by
  intro σ I
  have R := INV_R I
  have W := R.1
  have hS := W.2.1
  by_cases h1 : nI 0 ≤ a1 ∧ a1 < nI (nS (σ 6 1))
  · by_cases q : a2 = nI 1 ∨ a2 = nI 2 ∨ a2 = nI 5 ∨ a2 = nI 6
    · by_cases h3 : nI 0 ≤ a3 ∧ a3 < nI 101
      · obtain ⟨i, hi, rfl⟩ := in_of (by omega) h1
        obtain ⟨n, hn, rfl⟩ := in_of (by omega) h3
        obtain ⟨τ, e1⟩ := c_aheadc a2 σ R hi (n := n) (by omega)
        apply sim_mk (r := (S_told (S_days (σ 6 1) n) i a2)) (σ1 := va_up σ 2 τ) (σ2 := ma (va_up σ 2 τ) (cpR (σ 6 1) (σ 6 3))) (h3 := I)
        · rcases q with rfl | rfl | rfl | rfl
          · simp only [e_X4_ahead, c_isSill_t hq1 σ R h1, bi_s, n10, reduceIte, cw_t (n := 100) σ (by omega) h3, e1]
          · simp only [e_X4_ahead, c_isSill_t hq1 σ R h1, bi_s, n10, k21, reduceIte, cw_t (n := 100) σ (by omega) h3, e1]
          · simp only [e_X4_ahead, c_isSill_t hq1 σ R h1, bi_s, n10, k3n (a := 5) (b := 1) rfl, k3n (a := 5) (b := 2) rfl, reduceIte, cw_t (n := 100) σ (by omega) h3, e1]
          · simp only [e_X4_ahead, c_isSill_t hq1 σ R h1, bi_s, n10, k3n (a := 6) (b := 1) rfl, k3n (a := 6) (b := 2) rfl, k3n (a := 6) (b := 5) rfl, reduceIte, cw_t (n := 100) σ (by omega) h3, e1]
        · have e2 := m_aheadc a2 (va_up σ 2 τ) W hi (n := n) (by omega)
          rcases q with rfl | rfl | rfl | rfl
          · rw [e_X5_ahead, mwithin_t (a := nI 1) (l := nI 1) (h := nI 2) _ (by decide), bi_s, if_neg n10, ms_t (va_up σ 2 τ) W h1, bi_s, if_neg n10, if_neg n10, mw_t (n := 100) _ (by omega) h3, bi_s, if_neg n10, e2]; rfl
          · rw [e_X5_ahead, mwithin_t (a := nI 2) (l := nI 1) (h := nI 2) _ (by decide), bi_s, if_neg n10, ms_t (va_up σ 2 τ) W h1, bi_s, if_neg n10, if_neg n10, mw_t (n := 100) _ (by omega) h3, bi_s, if_neg n10, e2]; rfl
          · rw [e_X5_ahead, mwithin_f (a := nI 5) (l := nI 1) (h := nI 2) _ (by decide), bi_s, if_pos rfl, mwithin_t (a := nI 5) (l := nI 5) (h := nI 6) _ (by decide), bi_s, if_neg n10, ms_t (va_up σ 2 τ) W h1, bi_s, if_neg n10, if_neg n10, mw_t (n := 100) _ (by omega) h3, bi_s, if_neg n10, e2]; rfl
          · rw [e_X5_ahead, mwithin_f (a := nI 6) (l := nI 1) (h := nI 2) _ (by decide), bi_s, if_pos rfl, mwithin_t (a := nI 6) (l := nI 5) (h := nI 6) _ (by decide), bi_s, if_neg n10, ms_t (va_up σ 2 τ) W h1, bi_s, if_neg n10, if_neg n10, mw_t (n := 100) _ (by omega) h3, bi_s, if_neg n10, e2]; rfl
      · obtain ⟨A, e1, σ2, e2, I2⟩ := find0 I
        obtain ⟨x, hx⟩ := mw_x a2 (nI 1) (nI 2)
        obtain ⟨y, hy⟩ := mw_x a2 (nI 5) (nI 6)
        apply sim_mk (r := (Int32.ofNat 4293967295)) (σ1 := va_up σ 0 A) (h3 := I2)
        · simp only [e_X4_ahead, c_isSill_t hq1 σ R h1, bi_s, n10, reduceIte, cw_f (n := 100) σ (by omega) h3, e1, ite_self]
        · simp only [e_X5_ahead, hx, hy, ms_t (va_up σ 0 A) W h1, bi_s, n10, reduceIte, mw_f (n := 100) _ (by omega) h3, e2, ite_self]
    · obtain ⟨A, e1, σ2, e2, I2⟩ := find0 I
      have q1 : ¬ a2 = nI 1 := fun e => q (Or.inl e)
      have q2 : ¬ a2 = nI 2 := fun e => q (Or.inr (Or.inl e))
      have q5 : ¬ a2 = nI 5 := fun e => q (Or.inr (Or.inr (Or.inl e)))
      have q6 : ¬ a2 = nI 6 := fun e => q (Or.inr (Or.inr (Or.inr e)))
      have z1 : ¬ (nI 1 ≤ a2 ∧ a2 ≤ nI 2) := fun z => by
        obtain ⟨j, hj1, hj2, rfl⟩ := in_r (by omega) (by omega) z
        rcases (show j = 1 ∨ j = 2 by omega) with rfl | rfl
        · exact q1 rfl
        · exact q2 rfl
      have z2 : ¬ (nI 5 ≤ a2 ∧ a2 ≤ nI 6) := fun z => by
        obtain ⟨j, hj1, hj2, rfl⟩ := in_r (by omega) (by omega) z
        rcases (show j = 5 ∨ j = 6 by omega) with rfl | rfl
        · exact q5 rfl
        · exact q6 rfl
      apply sim_mk (r := (Int32.ofNat 4293967295)) (σ1 := va_up σ 0 A) (h3 := I2)
      · simp only [e_X4_ahead, c_isSill_t hq1 σ R h1, bi_s, n10, q1, q2, q5, q6, reduceIte, e1]
      · simp only [e_X5_ahead, mwithin_f _ z1, mwithin_f _ z2, ms_t (va_up σ 0 A) W h1, bi_s, n10, reduceIte, e2]
  · obtain ⟨A, e1, σ2, e2, I2⟩ := find0 I
    obtain ⟨x, hx⟩ := mw_x a2 (nI 1) (nI 2)
    obtain ⟨y, hy⟩ := mw_x a2 (nI 5) (nI 6)
    apply sim_mk (r := (Int32.ofNat 4293967295)) (σ1 := va_up σ 0 A) (h3 := I2)
    · simp only [e_X4_ahead, c_isSill_f hq1 σ R h1, bi_s, reduceIte, e1, ite_self]
    · simp only [e_X5_ahead, hx, hy, ms_f (va_up σ 0 A) W h1, bi_s, reduceIte, e2, ite_self]
theorem sim_later (a1 a2 a3 : Int32) : SIM F_X4_later F_X5_later [.inl a1, .inl a2, .inl a3] := by
  intro σ I
  have R := INV_R I
  have W := R.1
  have hP := W.2.2.1
  by_cases h1 : nI 0 ≤ a1 ∧ a1 < nI (nP (σ 6 1))
  · by_cases h2 : nI 0 ≤ a2 ∧ a2 < nI 3
    · by_cases h3 : nI 0 ≤ a3 ∧ a3 < nI 101
      · obtain ⟨p, hp, rfl⟩ := in_of (by omega) h1
        obtain ⟨f, hf, rfl⟩ := in_of (by omega) h2
        obtain ⟨n, hn, rfl⟩ := in_of (by omega) h3
        have p6 := WR_p6 W hp
        obtain ⟨τ, e1, R1⟩ := c_begin σ R
        obtain ⟨τ2, e2, R2⟩ := c_passDays hq2 (n := n) (va_up σ 2 τ) (by omega) (by rw [up_at]; exact R1)
        apply sim_mk (σ1 := va_up σ 2 τ2) (σ2 := ma (va_up σ 2 τ2) (cpR (σ 6 1) (σ 6 3))) (h3 := I)
        · rw [e_X4_later, c_isPerson_t hq1 σ R h1, bi_s, if_neg n10, cw_t (n := 2) σ (by omega) h2, bi_s, if_neg n10, cw_t (n := 100) σ (by omega) h3, bi_s, if_neg n10, e1, bv_s, e2, bv_s, up_uu, c_tellPerson hq2 hf (va_up σ 2 τ2) (by rw [up_at]; exact R2) (by rw [(S_days_np W n).2]; exact hp), bi_s]
        · rw [e_X5_later, mp_t (va_up σ 2 τ2) W h1, bi_s, if_neg n10, mw_t (n := 2) _ (by omega) h2, bi_s, if_neg n10, mw_t (n := 100) _ (by omega) h3, bi_s, if_neg n10, m_personAt, bi_s, m_behind (va_up σ 2 τ2) (px_lt p6 hf) (by omega) W, bi_s]; rfl
      · obtain ⟨A, e1, σ2, e2, I2⟩ := find0 I
        apply sim_mk (h3 := I2)
        · rw [e_X4_later, c_isPerson_t hq1 σ R h1, bi_s, if_neg n10, cw_t (n := 2) σ (by omega) h2, bi_s, if_neg n10, cw_f (n := 100) σ (by omega) h3, bi_s, if_pos rfl, e1, bi_s]
        · rw [e_X5_later, mp_t (va_up σ 0 A) W h1, bi_s, if_neg n10, mw_t (n := 2) _ (by omega) h2, bi_s, if_neg n10, mw_f (n := 100) _ (by omega) h3, bi_s, if_pos rfl, e2, bi_s]
    · obtain ⟨A, e1, σ2, e2, I2⟩ := find0 I
      apply sim_mk (h3 := I2)
      · rw [e_X4_later, c_isPerson_t hq1 σ R h1, bi_s, if_neg n10, cw_f (n := 2) σ (by omega) h2, bi_s, if_pos rfl, e1, bi_s]
      · rw [e_X5_later, mp_t (va_up σ 0 A) W h1, bi_s, if_neg n10, mw_f (n := 2) _ (by omega) h2, bi_s, if_pos rfl, e2, bi_s]
  · obtain ⟨A, e1, σ2, e2, I2⟩ := find0 I
    apply sim_mk (h3 := I2)
    · rw [e_X4_later, c_isPerson_f hq1 σ R h1, bi_s, if_pos rfl, e1, bi_s]
    · rw [e_X5_later, mp_f (va_up σ 0 A) W h1, bi_s, if_pos rfl, e2, bi_s]
/-! the first day that something is so -/
def S_le (P : Nat → Prop) [DecidablePred P] : Nat → Nat → Int32
  | 0, _ => -1
  | t + 1, j => if P j then nI j else S_le P t (j + 1)
theorem S_le_or (P : Nat → Prop) [DecidablePred P] : ∀ t j, j + t < 2 ^ 31 → S_le P t j = -1 ∨ ∃ n, n < 2 ^ 31 ∧ S_le P t j = nI n
  | 0, _, _ => Or.inl rfl
  | t + 1, j, h => by
    rw [S_le]
    by_cases q : P j
    · rw [if_pos q]; exact Or.inr ⟨j, by omega, rfl⟩
    · rw [if_neg q]; exact S_le_or P t (j + 1) (by omega)
theorem m_hasWord {p : Nat} (w : Int32) (σ : ts_S) (hp : p < 6) : F_X5_hasWord [.inr (.inr (.inl (6, 0))), .inl (nI p), .inl w] σ = some (some (.inl (if S_bit (σ 6 1 (px p 0)) w = nI 1 then nI 1 else nI 0)), σ) := by
  have hb : ∀ x y : Int32, ((x >>> (y &&& nI 31)) &&& nI 1) = S_bit x y := fun _ _ => rfl
  rw [e_X5_hasWord, m_personIs σ hp (by omega), bi_s, hb]
  split <;> rfl
theorem c_hears_l {ρ : Nat → Int32} (W : WR ρ) {p : Nat} (w : Int32) (hp : p < nP ρ) : ∀ t j (σ : ts_S), j + t = 201 → RQ (σ 2) (S_days ρ j) → ∃ τ, H_X4_hears_32 (nI p) w (nI j) σ = fin3 (S_le (fun n => S_bit (S_days ρ n (px p 0)) w = nI 1) t j) (va_up σ 2 τ)
  | 0, j, σ, e, R => ⟨σ 2, by rw [h_X4_hears_32, if_pos (nI_lt (by omega) (by omega)), S_le, fin3, if_pos rfl, up_id]⟩
  | t + 1, j, σ, e, R => by
    have p6 := WR_p6 W hp
    have e7 := (RQ_P R (p := p) (by rw [(S_days_np W j).2]; exact hp)).1
    rw [h_X4_hears_32, if_neg (nI_nlt (by omega) (by omega)), S_le]
    rcases S_bit_01 (S_days ρ j (px p 0)) w with q | q
    · rw [c_hasWord_f hq2 _ σ p6 (by rw [e7]; exact q), bi_s, if_pos rfl, if_neg (by rw [q]; exact n01)]
      obtain ⟨τ, e1, R1⟩ := c_passDays hq2 (n := 1) σ (by omega) R
      obtain ⟨τ2, e2⟩ := c_hears_l W w hp t (j + 1) (va_up σ 2 τ) (by omega) (by rw [up_at]; exact R1)
      refine ⟨τ2, ?_⟩
      rw [e1, bv_s, nI_add, e2, up_uu]
    · rw [c_hasWord_t hq2 _ σ p6 (by rw [e7]; exact q), bi_s, if_neg n10, if_pos q]
      exact ⟨σ 2, by rw [fin3, if_neg (nm (by omega)), up_id]⟩
theorem m_hears_l {ρ α : Nat → Int32} (W : WR ρ) {p : Nat} (w : Int32) (p6 : p < 6) : ∀ t j (σ : ts_S), j + t = 200 → σ 6 1 = S_days ρ j → σ 6 3 = cpR ρ α → H_X5_hears_35 (nI p) w (nI j) σ = mfin (S_le (fun n => S_bit (S_days ρ n (px p 0)) w = nI 1) (t + 1) j) (mr σ ρ)
  | 0, j, σ, e, h1, h3 => by
    have hb : ∀ a, 111 ≤ a → σ 6 1 a = ρ a := fun a ha => by rw [h1]; exact S_days_hi W ha j
    rw [h_X5_hears_35, if_pos (nI_le (by omega) (by omega)), m_hasWord w σ p6, bi_s, h1, S_le, S_le]
    by_cases q : S_bit (S_days ρ j (px p 0)) w = nI 1
    · rw [if_pos q, if_neg n10, if_pos q, m_back _ σ ρ α h3 hb, bi_s]; rfl
    · rw [if_neg q, if_pos rfl, if_neg q, m_back _ σ ρ α h3 hb, bi_s]; rfl
  | t + 1, j, σ, e, h1, h3 => by
    have hb : ∀ a, 111 ≤ a → σ 6 1 a = ρ a := fun a ha => by rw [h1]; exact S_days_hi W ha j
    rw [h_X5_hears_35, if_neg (nI_ge (by omega) (by omega)), m_hasWord w σ p6, bi_s, h1, S_le]
    by_cases q : S_bit (S_days ρ j (px p 0)) w = nI 1
    · rw [if_pos q, if_neg n10, if_pos q, m_hasWord w σ p6, bi_s, h1, if_pos q, if_neg n10, m_back _ σ ρ α h3 hb, bi_s]; rfl
    · rw [if_neg q, if_pos rfl, if_neg q, m_day σ (by rw [h1]; exact WR_days W j), bv_s, nI_add, m_hears_l W w p6 t (j + 1) _ (by omega) (by rw [mr_rd, h1]; rfl) (by exact h3), mr_mr]
theorem sim_hears (a1 a2 : Int32) : SIM F_X4_hears F_X5_hears [.inl a1, .inl a2] := by
  intro σ I
  have R := INV_R I
  have W := R.1
  have hP := W.2.2.1
  by_cases h1 : nI 0 ≤ a1 ∧ a1 < nI (nP (σ 6 1))
  · by_cases h2 : nI 0 ≤ a2 ∧ a2 < nI 12
    · obtain ⟨p, hp, rfl⟩ := in_of (by omega) h1
      have p6 := WR_p6 W hp
      obtain ⟨τ, e1, R1⟩ := c_begin σ R
      obtain ⟨τ2, e2⟩ := c_hears_l W a2 hp 201 0 (va_up σ 2 τ) (by omega) (by rw [up_at]; exact R1)
      rw [up_uu] at e2
      refine sim_fin I (S_le_or (fun n => S_bit (S_days (σ 6 1) n (px p 0)) a2 = nI 1) 201 0 (by omega)) (τ := τ2) ?_ (fun σ1 h6 h5 => ⟨cpR (σ1 6 1) (σ1 6 3), ?_⟩)
      · rw [e_X4_hears, c_isPerson_t hq1 σ R h1, bi_s, if_neg n10, below_t σ h2, bi_s, if_neg n10, e1, bv_s]
        exact e2
      · have e3 := m_hears_l (ρ := σ1 6 1) (α := σ1 6 3) (by rw [h6]; exact W) a2 p6 200 0 (ma σ1 (cpR (σ1 6 1) (σ1 6 3))) (by omega) rfl rfl
        rw [mr_ma_id σ1 _ _ rfl] at e3
        rw [e_X5_hears, mp_t σ1 (by rw [h6]; exact W) (by rw [h6]; exact h1), bi_s, if_neg n10, wordn_t _ h2, bi_s, if_neg n10, m_save, bv_s]
        rw [h6] at e3 ⊢
        exact e3
    · obtain ⟨A, e1, σ2, e2, I2⟩ := find0 I
      apply sim_mk (h3 := I2)
      · rw [e_X4_hears, c_isPerson_t hq1 σ R h1, bi_s, if_neg n10, below_f σ h2, bi_s, if_pos rfl, e1, bi_s]
      · rw [e_X5_hears, mp_t (va_up σ 0 A) W h1, bi_s, if_neg n10, wordn_f _ h2, bi_s, if_pos rfl, e2, bi_s]
  · obtain ⟨A, e1, σ2, e2, I2⟩ := find0 I
    apply sim_mk (h3 := I2)
    · rw [e_X4_hears, c_isPerson_f hq1 σ R h1, bi_s, if_pos rfl, e1, bi_s]
    · rw [e_X5_hears, mp_f (va_up σ 0 A) W h1, bi_s, if_pos rfl, e2, bi_s]
theorem mwi_e (a l h : Int32) (σ : ts_S) : F_X5_within [.inl a, .inl l, .inl h] σ = some (some (.inl (if l ≤ a ∧ a ≤ h then nI 1 else nI 0)), σ) := by
  by_cases q : l ≤ a ∧ a ≤ h
  · rw [mwithin_t σ q, if_pos q]
  · rw [mwithin_f σ q, if_neg q]
theorem m_daysTo_l {ρ α : Nat → Int32} (W : WR ρ) {a : Nat} (lo hi : Int32) (ha : a < 111) : ∀ t j (σ : ts_S), j + t = 200 → σ 6 1 = S_days ρ j → σ 6 3 = cpR ρ α → H_X5_daysTo_14 (nI a) lo hi (nI j) σ = some (some (.inl (S_le (fun n => lo ≤ S_days ρ n a ∧ S_days ρ n a ≤ hi) (t + 1) j)), mr σ ρ)
  | 0, j, σ, e, h1, h3 => by
    have hb : ∀ a, 111 ≤ a → σ 6 1 a = ρ a := fun a ha => by rw [h1]; exact S_days_hi W ha j
    rw [h_X5_daysTo_14, if_pos (nI_le (by omega) (by omega)), ck_n _ ha (by omega), nI_clamp (by omega), mwi_e, bi_s, h1, S_le, S_le]
    by_cases q : lo ≤ S_days ρ j a ∧ S_days ρ j a ≤ hi
    · rw [if_pos q, if_neg n10, if_pos q, m_back _ σ ρ α h3 hb, bi_s]
    · rw [if_neg q, if_pos rfl, if_neg q, m_back _ σ ρ α h3 hb, bi_s]
  | t + 1, j, σ, e, h1, h3 => by
    have hb : ∀ a, 111 ≤ a → σ 6 1 a = ρ a := fun a ha => by rw [h1]; exact S_days_hi W ha j
    rw [h_X5_daysTo_14, if_neg (nI_ge (by omega) (by omega)), ck_n _ ha (by omega), nI_clamp (by omega), mwi_e, bi_s, h1, S_le]
    by_cases q : lo ≤ S_days ρ j a ∧ S_days ρ j a ≤ hi
    · rw [if_pos q, if_neg n10, if_pos q, ck_n _ ha (by omega), mwi_e, bi_s, if_pos q, if_neg n10, m_back _ σ ρ α h3 hb, bi_s]
    · rw [if_neg q, if_pos rfl, if_neg q, m_day σ (by rw [h1]; exact WR_days W j), bv_s, nI_add, m_daysTo_l W lo hi ha t (j + 1) _ (by omega) (by rw [mr_rd, h1]; rfl) (by exact h3), mr_mr]
theorem m_daysTo {a : Nat} (lo hi : Int32) (ha : a < 111) (σ : ts_S) (W : WR (σ 6 1)) : F_X5_daysTo [.inr (.inr (.inl (6, 0))), .inl (nI a), .inl lo, .inl hi] σ = some (some (.inl (S_le (fun n => lo ≤ S_days (σ 6 1) n a ∧ S_days (σ 6 1) n a ≤ hi) 201 0)), ma σ (cpR (σ 6 1) (σ 6 3))) := by
  have e3 := m_daysTo_l (ρ := σ 6 1) (α := σ 6 3) W lo hi ha 200 0 (ma σ (cpR (σ 6 1) (σ 6 3))) (by omega) rfl rfl
  rw [mr_ma_id σ _ _ rfl] at e3
  rw [e_X5_daysTo, m_save, bv_s]
  exact e3
theorem c_waste_l {ρ : Nat → Int32} (W : WR ρ) (v : Int32) : ∀ t j (σ : ts_S), j + t = 201 → RQ (σ 2) (S_days ρ j) → ∃ τ, H_X4_waste_22 v (nI j) σ = fin3 (S_le (fun n => v ≤ S_days ρ n 4 ∧ S_days ρ n 4 ≤ nI 99999) t j) (va_up σ 2 τ)
  | 0, j, σ, e, R => ⟨σ 2, by rw [h_X4_waste_22, if_pos (nI_lt (by omega) (by omega)), S_le, fin3, if_pos rfl, up_id]⟩
  | t + 1, j, σ, e, R => by
    obtain ⟨m, hm, em⟩ := (WR_days W j).2.2.2.1
    rw [h_X4_waste_22, if_neg (nI_nlt (by omega) (by omega)), S_le, R.2.1.2.2.2.2]
    by_cases q : S_days ρ j 4 < v
    · rw [if_pos q, if_neg (fun z => absurd z.1 (Int32.not_le.mpr q))]
      obtain ⟨τ, e1, R1⟩ := c_passDays hq2 (n := 1) σ (by omega) R
      obtain ⟨τ2, e2⟩ := c_waste_l W v t (j + 1) (va_up σ 2 τ) (by omega) (by rw [up_at]; exact R1)
      refine ⟨τ2, ?_⟩
      rw [e1, bv_s, nI_add, e2, up_uu]
    · rw [if_neg q, if_pos ⟨Int32.not_lt.mp q, by rw [em]; exact nI_le hm (by omega)⟩]
      exact ⟨σ 2, by rw [fin3, if_neg (nm (by omega)), up_id]⟩
theorem sim_waste (a1 : Int32) : SIM F_X4_waste F_X5_waste [.inl a1] := by
  intro σ I
  have R := INV_R I
  have W := R.1
  by_cases h1 : nI 0 ≤ a1 ∧ a1 < nI 100000
  · obtain ⟨τ, e1, R1⟩ := c_begin σ R
    obtain ⟨τ2, e2⟩ := c_waste_l W a1 201 0 (va_up σ 2 τ) (by omega) (by rw [up_at]; exact R1)
    rw [up_uu] at e2
    refine sim_fin I (S_le_or (fun n => a1 ≤ S_days (σ 6 1) n 4 ∧ S_days (σ 6 1) n 4 ≤ nI 99999) 201 0 (by omega)) (τ := τ2) ?_ (fun σ1 h6 h5 => ⟨cpR (σ1 6 1) (σ1 6 3), ?_⟩)
    · rw [e_X4_waste, cw_t (n := 99999) σ (by omega) h1, bi_s, if_neg n10, e1, bv_s]
      exact e2
    · rw [e_X5_waste, mw_t (n := 99999) _ (by omega) h1, bi_s, if_neg n10, m_daysTo _ _ (by omega) σ1 (by rw [h6]; exact W), bi_s, h6]
      rfl
  · obtain ⟨A, e1, σ2, e2, I2⟩ := find0 I
    apply sim_mk (h3 := I2)
    · rw [e_X4_waste, cw_f (n := 99999) σ (by omega) h1, bi_s, if_pos rfl, e1, bi_s]
    · rw [e_X5_waste, mw_f (n := 99999) _ (by omega) h1, bi_s, if_pos rfl, e2, bi_s]
theorem c_mute_l {ρ : Nat → Int32} (W : WR ρ) {p : Nat} (hp : p < nP ρ) : ∀ t j (σ : ts_S), j + t = 201 → RQ (σ 2) (S_days ρ j) → ∃ τ, H_X4_mute_23 (nI p) (nI j) σ = fin3 (S_le (fun n => nI 0 ≤ S_days ρ n (px p 0) ∧ S_days ρ n (px p 0) ≤ nI 0) t j) (va_up σ 2 τ)
  | 0, j, σ, e, R => ⟨σ 2, by rw [h_X4_mute_23, if_pos (nI_lt (by omega) (by omega)), S_le, fin3, if_pos rfl, up_id]⟩
  | t + 1, j, σ, e, R => by
    have p6 := WR_p6 W hp
    have e7 := (RQ_P R (p := p) (by rw [(S_days_np W j).2]; exact hp)).1
    rw [h_X4_mute_23, if_neg (nI_nlt (by omega) (by omega)), S_le, ck_n _ p6 (by omega), nI_clamp (by omega), e7]
    by_cases q : S_days ρ j (px p 0) = nI 0
    · rw [if_pos q, if_pos (by rw [q]; exact ⟨by decide, by decide⟩)]
      exact ⟨σ 2, by rw [fin3, if_neg (nm (by omega)), up_id]⟩
    · rw [if_neg q, if_neg (fun z => q (Int32.le_antisymm z.2 z.1))]
      obtain ⟨τ, e1, R1⟩ := c_passDays hq2 (n := 1) σ (by omega) R
      obtain ⟨τ2, e2⟩ := c_mute_l W hp t (j + 1) (va_up σ 2 τ) (by omega) (by rw [up_at]; exact R1)
      refine ⟨τ2, ?_⟩
      rw [e1, bv_s, nI_add, e2, up_uu]
theorem sim_mute (a1 : Int32) : SIM F_X4_mute F_X5_mute [.inl a1] := by
  intro σ I
  have R := INV_R I
  have W := R.1
  have hP := W.2.2.1
  by_cases h1 : nI 0 ≤ a1 ∧ a1 < nI (nP (σ 6 1))
  · obtain ⟨p, hp, rfl⟩ := in_of (by omega) h1
    have p6 := WR_p6 W hp
    obtain ⟨τ, e1, R1⟩ := c_begin σ R
    obtain ⟨τ2, e2⟩ := c_mute_l W hp 201 0 (va_up σ 2 τ) (by omega) (by rw [up_at]; exact R1)
    rw [up_uu] at e2
    refine sim_fin I (S_le_or (fun n => nI 0 ≤ S_days (σ 6 1) n (px p 0) ∧ S_days (σ 6 1) n (px p 0) ≤ nI 0) 201 0 (by omega)) (τ := τ2) ?_ (fun σ1 h6 h5 => ⟨cpR (σ1 6 1) (σ1 6 3), ?_⟩)
    · rw [e_X4_mute, c_isPerson_t hq1 σ R h1, bi_s, if_neg n10, e1, bv_s]
      exact e2
    · rw [e_X5_mute, mp_t σ1 (by rw [h6]; exact W) (by rw [h6]; exact h1), bi_s, if_neg n10, m_personAt, bi_s, m_daysTo _ _ (px_lt p6 (by omega)) σ1 (by rw [h6]; exact W), bi_s, h6]
      rfl
  · obtain ⟨A, e1, σ2, e2, I2⟩ := find0 I
    apply sim_mk (h3 := I2)
    · rw [e_X4_mute, c_isPerson_f hq1 σ R h1, bi_s, if_pos rfl, e1, bi_s]
    · rw [e_X5_mute, mp_f (va_up σ 0 A) W h1, bi_s, if_pos rfl, e2, bi_s]
