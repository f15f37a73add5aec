/-! seek -/
theorem S_in_f {ρ : Nat → Int32} {p i : Nat} (hp : p < 6) (hi : i < 8) (hk : nK ρ i ≤ 5) : (S_in ρ p i).2 (px p 1) = nI i ∧ (S_in ρ p i).2 (sx i 2) = ρ (sx i 2) := by
  unfold S_in
  split
  · exact ⟨upd_at _ _ _, upd_ne _ _ (by unfold px sx; omega)⟩
  · dsimp only
    split
    · constructor
      · rw [upd_ne _ _ (by unfold px; omega), upd_ne _ _ (by unfold px; omega), upd_at]
      · rw [upd_ne _ _ (by unfold sx; omega), upd_ne _ _ (by unfold px sx; omega), upd_ne _ _ (by unfold px sx; omega)]
    · unfold S_lay
      rw [nK_upd (by unfold px sx; omega), nK_upd (by unfold px sx; omega)]
      constructor
      · rw [upd_ne _ _ (by unfold px sx; omega), upd_ne _ _ (by unfold px sx; omega), upd_ne _ _ (by unfold px; omega), upd_at]
      · rw [upd_ne _ _ (by unfold sx; omega), upd_ne _ _ (by unfold sx; omega), upd_ne _ _ (by unfold px sx; omega), upd_ne _ _ (by unfold px sx; omega)]
theorem S_out_f {ρ : Nat → Int32} {p i : Nat} (hp : p < 6) (hi : i < 8) (hk : nK ρ i ≤ 5) : (S_out ρ p i).2 (px p 1) = -1 := by
  unfold S_out
  rcases S_from_or ρ i with e | ⟨j, hj, e⟩
  · rw [if_pos e]; exact upd_at _ _ _
  · rw [e, if_neg (nm (by omega)), nI_clamp (by omega)]
    dsimp only
    unfold S_oz
    split
    · rw [upd_ne _ _ (by unfold px; omega), upd_ne _ _ (by unfold px sx; omega), S_sh_out _ (by unfold px sx; omega), upd_at]
    · rw [upd_ne _ _ (by unfold px; omega), upd_ne _ _ (by unfold px sx; omega), S_sh_out _ (by unfold px sx; omega), upd_at]
theorem S_cr_in {ρ : Nat → Int32} (W : WR ρ) {p i : Nat} (hp : p < nP ρ) (hi : i < nS ρ) (h : ρ (px p 1) = -1) : (S_cr ρ p i).2 (px p 1) = nI i ∧ (S_cr ρ p i).2 (sx i 2) = ρ (sx i 2) := by
  have p6 := WR_p6 W hp
  have i8 := WR_i8 W hi
  have ok := okS_k (WR_okS W hi)
  have f := S_in_f p6 i8 ok.2
  unfold S_cr S_cz
  rw [if_pos h]
  dsimp only
  rw [upd_ne _ _ (by unfold px; omega), upd_ne _ _ (by unfold px sx; omega), upd_ne _ _ (by unfold px sx; omega), upd_ne _ _ (by unfold sx; omega)]
  exact f
theorem S_cr_out {ρ : Nat → Int32} (W : WR ρ) {p i : Nat} (hp : p < nP ρ) (hi : i < nS ρ) (h : ¬ ρ (px p 1) = -1) : (S_cr ρ p i).2 (px p 1) = -1 := by
  have p6 := WR_p6 W hp
  have i8 := WR_i8 W hi
  have ok := okS_k (WR_okS W hi)
  have f := S_out_f p6 i8 ok.2
  unfold S_cr S_cz
  rw [if_neg h]
  dsimp only
  rw [upd_ne _ _ (by unfold px; omega), upd_ne _ _ (by unfold px sx; omega)]
  exact f
def S_sk (ρ : Nat → Int32) (p : Nat) : Nat → (Nat → Int32)
  | 0 => ρ
  | j + 1 => if S_may (S_sk ρ p j) p j then (S_cr (S_cr (S_sk ρ p j) p j).2 p j).2 else S_sk ρ p j
theorem sk_step {r : Nat → Int32} (W : WR r) {p j : Nat} (hp : p < nP r) (hj : j < nS r) (hi : r (px p 1) = -1) (hm : S_may r p j) : S_may (S_cr r p j).2 p j ∧ WR (S_cr r p j).2 ∧ nS (S_cr r p j).2 = nS r ∧ nP (S_cr r p j).2 = nP r ∧ WR (S_cr (S_cr r p j).2 p j).2 ∧ nS (S_cr (S_cr r p j).2 p j).2 = nS r ∧ nP (S_cr (S_cr r p j).2 p j).2 = nP r ∧ (S_cr (S_cr r p j).2 p j).2 (px p 1) = -1 ∧ ∀ a, 111 ≤ a → (S_cr (S_cr r p j).2 p j).2 a = r a := by
  have i8 := WR_i8 W hj
  obtain ⟨f1, f2⟩ := S_cr_in W hp hj hi
  have W1 := WR_S_cr W hp hj
  obtain ⟨n1, n2⟩ := S_cr_np W hp hj
  have hp1 : p < nP (S_cr r p j).2 := by rw [n2]; exact hp
  have hj1 : j < nS (S_cr r p j).2 := by rw [n1]; exact hj
  obtain ⟨n3, n4⟩ := S_cr_np W1 hp1 hj1
  refine ⟨⟨by rw [f2]; exact hm.1, Or.inr f1⟩, W1, n1, n2, WR_S_cr W1 hp1 hj1, by rw [n3, n1], by rw [n4, n2], S_cr_out W1 hp1 hj1 (by rw [f1]; exact nm (by omega)), fun a ha => ?_⟩
  rw [S_cr_hi W1 hp1 hj1 ha, S_cr_hi W hp hj ha]
theorem sk_all {ρ : Nat → Int32} (W : WR ρ) {p : Nat} (hp : p < nP ρ) (hi : ρ (px p 1) = -1) : ∀ j, j ≤ nS ρ → WR (S_sk ρ p j) ∧ nS (S_sk ρ p j) = nS ρ ∧ nP (S_sk ρ p j) = nP ρ ∧ S_sk ρ p j (px p 1) = -1 ∧ ∀ a, 111 ≤ a → S_sk ρ p j a = ρ a
  | 0, _ => ⟨W, rfl, rfl, hi, fun _ _ => rfl⟩
  | j + 1, h => by
    obtain ⟨a1, a2, a3, a4, a5⟩ := sk_all W hp hi j (by omega)
    rw [S_sk]
    by_cases q : S_may (S_sk ρ p j) p j
    · obtain ⟨b0, b1, b2, b3, b4, b5, b6, b7, b8⟩ := sk_step a1 (by rw [a3]; exact hp) (by rw [a2]; omega) a4 q
      rw [if_pos q]
      exact ⟨b4, by rw [b5, a2], by rw [b6, a3], b7, fun a ha => by rw [b8 a ha, a5 a ha]⟩
    · rw [if_neg q]
      exact ⟨a1, a2, a3, a4, a5⟩
theorem c_seek_l {ρ : Nat → Int32} (W : WR ρ) {p : Nat} (w : Int32) (hp : p < nP ρ) (hi : ρ (px p 1) = -1) : ∀ t j (σ : ts_S), j + t = nS ρ → RQ (σ 2) (S_sk ρ p j) → S_bit (S_sk ρ p j (px p 0)) w = nI 0 → ∃ τ, H_X4_seek_63 (nI p) w (nI j) σ = fin3 (S_le (fun n => S_bit (S_sk ρ p (n + 1) (px p 0)) w = nI 1) t j) (va_up σ 2 τ)
  | 0, j, σ, e, R, h0 => by
    have := W.2.1.2
    obtain ⟨a1, a2, a3, a4, a5⟩ := sk_all W hp hi j (by omega)
    exact ⟨σ 2, by rw [h_X4_seek_63, R.2.1.2.1, a1.2.1.1, a2, if_pos (nI_le (by omega) (by omega)), S_le, fin3, if_pos rfl, up_id]⟩
  | t + 1, j, σ, e, R, h0 => by
    have s8 := W.2.1.2
    have p6 := WR_p6 W hp
    obtain ⟨a1, a2, a3, a4, a5⟩ := sk_all W hp hi j (by omega)
    rw [h_X4_seek_63, R.2.1.2.1, a1.2.1.1, a2, if_neg (nI_ge (by omega) (by omega)), S_le, nI_add]
    by_cases q : S_may (S_sk ρ p j) p j
    · obtain ⟨b0, b1, b2, b3, b4, b5, b6, b7, b8⟩ := sk_step a1 (by rw [a3]; exact hp) (by rw [a2]; omega) a4 q
      have eq : S_sk ρ p (j + 1) = (S_cr (S_cr (S_sk ρ p j) p j).2 p j).2 := by rw [S_sk, if_pos q]
      obtain ⟨τ, e1, R1⟩ := c_cross hq2 σ R (by rw [a3]; exact hp) (by rw [a2]; omega) q
      obtain ⟨τ2, e2, R2⟩ := c_cross hq2 (va_up σ 2 τ) (p := p) (i := j) (by rw [up_at]; exact R1) (by rw [b3, a3]; exact hp) (by rw [b2, a2]; omega) b0
      rw [← eq] at R2
      have e7 := (RQ_P R2 (p := p) (by rw [eq, b6, a3]; exact hp)).1
      rw [e1, bi_s, e2, bi_s, up_uu]
      rcases S_bit_01 (S_sk ρ p (j + 1) (px p 0)) w with z | z
      · obtain ⟨τ3, e3⟩ := c_seek_l W w hp hi t (j + 1) (va_up σ 2 τ2) (by omega) (by rw [up_at]; exact R2) z
        refine ⟨τ3, ?_⟩
        rw [up_uu] at e3
        rw [c_hasWord_f hq2 _ (va_up σ 2 τ2) p6 (by rw [up_at, e7]; exact z), bi_s, if_pos rfl, if_neg (by rw [z]; exact n01), e3]
      · refine ⟨τ2, ?_⟩
        rw [c_hasWord_t hq2 _ (va_up σ 2 τ2) p6 (by rw [up_at, e7]; exact z), bi_s, if_neg n10, if_pos z, fin3, if_neg (nm (by omega))]
    · have eq : S_sk ρ p (j + 1) = S_sk ρ p j := by rw [S_sk, if_neg q]
      have e7 := (RQ_P R (p := p) (by rw [a3]; exact hp)).1
      have nc := c_nocross hq2 σ R p6 (show j < 8 by omega) (fun z => q z.2.2)
      obtain ⟨τ3, e3⟩ := c_seek_l W w hp hi t (j + 1) σ (by omega) (by rw [eq]; exact R) (by rw [eq]; exact h0)
      refine ⟨τ3, ?_⟩
      rw [nc, bi_s, nc, bi_s, c_hasWord_f hq2 _ σ p6 (by rw [e7]; exact h0), bi_s, if_pos rfl, if_neg (by rw [eq, h0]; exact n01), e3]
theorem m_seek_e {ρ α : Nat → Int32} (x y : Int32) {p : Nat} (w : Int32) {j : Nat} (hj : j < 2 ^ 31) (σ : ts_S) (h1 : ∀ a, 111 ≤ a → σ 6 1 a = ρ a) (h3 : σ 6 3 = cpR ρ α) : H_X5_seek_63 x w (nI j) y σ = mfin (nI j) (mr σ ρ) := by
  rw [h_X5_seek_63, ck_n _ (by omega) (by omega), m_back _ σ ρ α h3 h1, bi_s, if_pos (nge hj)]
  split <;> rfl
theorem m_seek_l {ρ α : Nat → Int32} (W : WR ρ) {p : Nat} (w : Int32) (hp : p < nP ρ) (hi : ρ (px p 1) = -1) : ∀ t j (σ : ts_S), j + t = nS ρ → σ 6 1 = S_sk ρ p j → σ 6 3 = cpR ρ α → S_bit (S_sk ρ p j (px p 0)) w = nI 0 → H_X5_seek_63 (nI p) w (-1) (nI j) σ = mfin (S_le (fun n => S_bit (S_sk ρ p (n + 1) (px p 0)) w = nI 1) t j) (mr σ ρ)
  | 0, j, σ, e, h1, h3, h0 => by
    have := W.2.1.2
    obtain ⟨a1, a2, a3, a4, a5⟩ := sk_all W hp hi j (by omega)
    rw [h_X5_seek_63, ck_n _ (by omega) (by omega), h1, a1.2.1.1, a2, if_pos (nI_le (by omega) (by omega)), m_back _ σ ρ α h3 (fun a ha => by rw [h1]; exact a5 a ha), bi_s, S_le]; rfl
  | t + 1, j, σ, e, h1, h3, h0 => by
    have s8 := W.2.1.2
    have p6 := WR_p6 W hp
    obtain ⟨a1, a2, a3, a4, a5⟩ := sk_all W hp hi j (by omega)
    rw [h_X5_seek_63, ck_n _ (by omega) (by omega), h1, a1.2.1.1, a2, if_neg (nI_ge (by omega) (by omega)), if_neg m1ge, S_le, nI_add]
    by_cases q : S_may (S_sk ρ p j) p j
    · obtain ⟨b0, b1, b2, b3, b4, b5, b6, b7, b8⟩ := sk_step a1 (by rw [a3]; exact hp) (by rw [a2]; omega) a4 q
      have eq : S_sk ρ p (j + 1) = (S_cr (S_cr (S_sk ρ p j) p j).2 p j).2 := by rw [S_sk, if_pos q]
      rw [m_may_t σ p6 (by omega) (by rw [h1]; exact q), bi_s, if_neg n10, m_crosses σ p6 (by rw [h1]; exact WR_okS a1 (by rw [a2]; omega)), bi_s, h1, m_crosses _ p6 (by rw [mr_rd]; exact WR_okS b1 (by rw [b2, a2]; omega)), bi_s, mr_rd, mr_mr, ← eq, m_hasWord _ _ p6, bi_s, mr_rd]
      rcases S_bit_01 (S_sk ρ p (j + 1) (px p 0)) w with z | z
      · have z' : ¬ S_bit (S_sk ρ p (j + 1) (px p 0)) w = nI 1 := by rw [z]; exact n01
        rw [if_neg z', if_pos rfl, if_neg z', m_seek_l W w hp hi t (j + 1) _ (by omega) (mr_rd _ _) (by exact h3) z, mr_mr]
      · rw [if_pos z, if_neg n10, if_pos z, m_seek_e (p := p) (ρ := ρ) (α := α) _ _ _ (by omega) (mr σ (S_sk ρ p (j + 1))) (fun a ha => by rw [mr_rd, eq, b8 a ha, a5 a ha]) (by exact h3), mr_mr]
    · have eq : S_sk ρ p (j + 1) = S_sk ρ p j := by rw [S_sk, if_neg q]
      rw [m_may_f σ p6 (by omega) (by rw [h1]; exact q), bi_s, if_pos rfl, m_seek_l W w hp hi t (j + 1) σ (by omega) (by rw [eq]; exact h1) h3 (by rw [eq]; exact h0), if_neg (by rw [eq, h0]; exact n01)]
theorem sim_seek (a1 a2 : Int32) : SIM F_X4_seek F_X5_seek [.inl a1, .inl a2] := by
  intro σ I
  have R := INV_R I
  have W := R.1
  have hP := W.2.2.1
  have hS := W.2.1
  by_cases h1 : nI 0 ≤ a1 ∧ a1 < nI (nP (σ 6 1))
  · by_cases h2 : nI 0 ≤ a2 ∧ a2 < nI 12
    · obtain ⟨p, hp, rfl⟩ := in_of (by omega) h1
      have p6 := WR_p6 W hp
      have b := RQ_P R hp
      rcases (WR_P W hp).2.1 with hi | ⟨s, hs, hi⟩
      · rcases S_bit_01 (σ 6 1 (px p 0)) a2 with z | z
        · obtain ⟨τ, e1, R1⟩ := c_begin σ R
          obtain ⟨τ2, e2⟩ := c_seek_l W a2 hp hi (nS (σ 6 1)) 0 (va_up σ 2 τ) (by omega) (by rw [up_at]; exact R1) z
          rw [up_uu] at e2
          refine sim_fin I (S_le_or (fun n => S_bit (S_sk (σ 6 1) p (n + 1) (px p 0)) a2 = nI 1) (nS (σ 6 1)) 0 (by omega)) (τ := τ2) ?_ (fun σ1 h6 h5 => ⟨cpR (σ1 6 1) (σ1 6 3), ?_⟩)
          · rw [e_X4_seek, c_isPerson_t hq1 σ R h1, bi_s, if_neg n10, below_t σ h2, bi_s, if_neg n10, ck_n _ p6 (by omega), nI_clamp (by omega), b.2.1, if_pos hi, c_hasWord_f hq1 _ σ p6 (by rw [b.1]; exact z), bi_s, if_pos rfl, e1, bv_s]
            exact e2
          · have W1 : WR (σ1 6 1) := by rw [h6]; exact W
            have hi1 : σ1 6 1 (px p 1) = -1 := by rw [h6]; exact hi
            have z1 : S_bit (σ1 6 1 (px p 0)) a2 = nI 0 := by rw [h6]; exact z
            have e3 := m_seek_l (ρ := σ1 6 1) (α := σ1 6 3) W1 a2 (by rw [h6]; exact hp) hi1 (nS (σ1 6 1)) 0 (ma σ1 (cpR (σ1 6 1) (σ1 6 3))) (by omega) rfl rfl z1
            rw [mr_ma_id σ1 _ _ rfl] at e3
            rw [e_X5_seek, mp_t σ1 W1 (by rw [h6]; exact h1), bi_s, if_neg n10, wordn_t _ h2, bi_s, if_neg n10, m_personIs σ1 p6 (by omega), bi_s, hi1, if_neg m1ge, m_hasWord _ _ p6, bi_s, z1, if_neg n01, if_pos rfl, m_save, bv_s]
            rw [h6] at e3 ⊢
            exact e3
        · obtain ⟨A, e1, σ2, e2, I2⟩ := find4 I
          apply sim_mk (h3 := I2)
          · rw [e_X4_seek, c_isPerson_t hq1 σ R h1, bi_s, if_neg n10, below_t σ h2, bi_s, if_neg n10, ck_n _ p6 (by omega), nI_clamp (by omega), b.2.1, if_pos hi, c_hasWord_t hq1 _ σ p6 (by rw [b.1]; exact z), bi_s, if_neg n10, e1, bi_s]
          · have hi' : (va_up σ 0 A) 6 1 (px p 1) = -1 := hi
            have z' : S_bit ((va_up σ 0 A) 6 1 (px p 0)) a2 = nI 1 := z
            rw [e_X5_seek, mp_t (va_up σ 0 A) W h1, bi_s, if_neg n10, wordn_t _ h2, bi_s, if_neg n10, m_personIs _ p6 (by omega), bi_s, hi', if_neg m1ge, m_hasWord _ _ p6, bi_s, z', if_pos rfl, if_neg n10, e2, bi_s]
      · obtain ⟨A, e1, σ2, e2, I2⟩ := find4 I
        have n : ¬ σ 6 1 (px p 1) = -1 := by rw [hi]; exact nm (by omega)
        apply sim_mk (h3 := I2)
        · rw [e_X4_seek, c_isPerson_t hq1 σ R h1, bi_s, if_neg n10, below_t σ h2, bi_s, if_neg n10, ck_n _ p6 (by omega), nI_clamp (by omega), b.2.1, if_neg n, e1, bi_s]
        · have hi' : (va_up σ 0 A) 6 1 (px p 1) = nI s := hi
          rw [e_X5_seek, mp_t (va_up σ 0 A) W h1, bi_s, if_neg n10, wordn_t _ h2, bi_s, if_neg n10, m_personIs _ p6 (by omega), bi_s, hi', if_pos (nge (by omega)), e2, bi_s]
    · obtain ⟨A, e1, σ2, e2, I2⟩ := find0 I
      apply sim_mk (h3 := I2)
      · rw [e_X4_seek, c_isPerson_t hq1 σ R h1, bi_s, if_neg n10, below_f σ h2, bi_s, if_pos rfl, e1, bi_s]
      · rw [e_X5_seek, mp_t (va_up σ 0 A) W h1, bi_s, if_neg n10, wordn_f _ h2, bi_s, if_pos rfl, e2, bi_s]
  · obtain ⟨A, e1, σ2, e2, I2⟩ := find0 I
    apply sim_mk (h3 := I2)
    · rw [e_X4_seek, c_isPerson_f hq1 σ R h1, bi_s, if_pos rfl, e1, bi_s]
    · rw [e_X5_seek, mp_f (va_up σ 0 A) W h1, bi_s, if_pos rfl, e2, bi_s]
