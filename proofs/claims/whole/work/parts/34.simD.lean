/-! now, count -/
def S_fd (f : Int32 → Nat → Int32) : Nat → Int32
  | 0 => nI 0
  | n + 1 => f (S_fd f n) n
theorem or_0 (x : Int32) : x ||| nI 0 = x := by rw [nI_0]; exact Int32.or_zero
theorem add_0 (x : Int32) : x + nI 0 = x := by rw [nI_0]; exact Int32.add_zero x
section SD
variable {g : Nat} {ρ : Nat → Int32}
theorem c_had_l (hg : ts_q g) (σ : ts_S) (R : RQ (σ g) ρ) : ∀ t j, j + t = nP ρ → H_X1_wordsHad_4 g (S_fd (fun a p => a ||| ρ (px p 0)) j) (nI j) σ = some (some (.inl (S_fd (fun a p => a ||| ρ (px p 0)) (nP ρ))), σ)
  | 0, j, e => by
    have hP := R.1.2.2.1
    rw [h_X1_wordsHad_4 hg, R.2.1.2.2.2.1, hP.1, if_pos (nI_le (by omega) (by omega))]
    rw [show j = nP ρ by omega]
  | t + 1, j, e => by
    have hP := R.1.2.2.1
    rw [h_X1_wordsHad_4 hg, R.2.1.2.2.2.1, hP.1, if_neg (nI_ge (by omega) (by omega)), ck_n _ (by omega) (by omega), ni_s, nI_clamp (by omega), (RQ_P R (p := j) (by omega)).1, nI_add]
    exact c_had_l hg σ R t (j + 1) (by omega)
theorem c_kpt_l (hg : ts_q g) (σ : ts_S) (R : RQ (σ g) ρ) : ∀ t j, j + t = nS ρ → H_X1_wordsKept_4 g (S_fd (fun a p => a ||| S_set ρ p) j) (nI j) σ = some (some (.inl (S_fd (fun a p => a ||| S_set ρ p) (nS ρ))), σ)
  | 0, j, e => by
    have hS := R.1.2.1
    rw [h_X1_wordsKept_4 hg, R.2.1.2.1, hS.1, if_pos (nI_le (by omega) (by omega))]
    rw [show j = nS ρ by omega]
  | t + 1, j, e => by
    have hS := R.1.2.1
    rw [h_X1_wordsKept_4 hg, R.2.1.2.1, hS.1, if_neg (nI_ge (by omega) (by omega)), c_keptSet hg σ R (by omega), bi_s, ni_s, nI_add]
    exact c_kpt_l hg σ R t (j + 1) (by omega)
theorem c_ins_l (hg : ts_q g) (σ : ts_S) (R : RQ (σ g) ρ) : ∀ t j, j + t = nP ρ → H_X1_peopleInside_4 g (S_fd (fun a p => if ρ (px p 1) = -1 then a else a ||| (nI 1 <<< (nI p &&& nI 31))) j) (nI j) σ = some (some (.inl (S_fd (fun a p => if ρ (px p 1) = -1 then a else a ||| (nI 1 <<< (nI p &&& nI 31))) (nP ρ))), σ)
  | 0, j, e => by
    have hP := R.1.2.2.1
    rw [h_X1_peopleInside_4 hg, R.2.1.2.2.2.1, hP.1, if_pos (nI_le (by omega) (by omega))]
    rw [show j = nP ρ by omega]
  | t + 1, j, e => by
    have hP := R.1.2.2.1
    have ih := c_ins_l hg σ R t (j + 1) (by omega)
    rw [S_fd] at ih
    rw [h_X1_peopleInside_4 hg, R.2.1.2.2.2.1, hP.1, if_neg (nI_ge (by omega) (by omega)), ck_n _ (by omega) (by omega), nI_clamp (by omega), (RQ_P R (p := j) (by omega)).2.1, nI_add, ni_s]
    by_cases q : ρ (px j 1) = -1
    · rw [if_pos q] at ih ⊢; exact ih
    · rw [if_neg q] at ih ⊢; exact ih
theorem c_mut_l (hg : ts_q g) (σ : ts_S) (R : RQ (σ g) ρ) : ∀ t j, j + t = nP ρ → H_X1_peopleWithoutWords_4 g (S_fd (fun a p => if ρ (px p 0) = nI 0 then a ||| (nI 1 <<< (nI p &&& nI 31)) else a) j) (nI j) σ = some (some (.inl (S_fd (fun a p => if ρ (px p 0) = nI 0 then a ||| (nI 1 <<< (nI p &&& nI 31)) else a) (nP ρ))), σ)
  | 0, j, e => by
    have hP := R.1.2.2.1
    rw [h_X1_peopleWithoutWords_4 hg, R.2.1.2.2.2.1, hP.1, if_pos (nI_le (by omega) (by omega))]
    rw [show j = nP ρ by omega]
  | t + 1, j, e => by
    have hP := R.1.2.2.1
    have ih := c_mut_l hg σ R t (j + 1) (by omega)
    rw [S_fd] at ih
    rw [h_X1_peopleWithoutWords_4 hg, R.2.1.2.2.2.1, hP.1, if_neg (nI_ge (by omega) (by omega)), ck_n _ (by omega) (by omega), nI_clamp (by omega), (RQ_P R (p := j) (by omega)).1, nI_add, ni_s]
    by_cases q : ρ (px j 0) = nI 0
    · rw [if_pos q] at ih ⊢; exact ih
    · rw [if_neg q] at ih ⊢; exact ih
theorem c_wea_l (hg : ts_q g) (σ : ts_S) (R : RQ (σ g) ρ) : ∀ t j, j + t = nS ρ → H_X1_wearOfAll_4 g (S_fd (fun a p => a + ρ (sx p 1)) j) (nI j) σ = some (some (.inl (S_fd (fun a p => a + ρ (sx p 1)) (nS ρ))), σ)
  | 0, j, e => by
    have hS := R.1.2.1
    rw [h_X1_wearOfAll_4 hg, R.2.1.2.1, hS.1, if_pos (nI_le (by omega) (by omega))]
    rw [show j = nS ρ by omega]
  | t + 1, j, e => by
    have hS := R.1.2.1
    rw [h_X1_wearOfAll_4 hg, R.2.1.2.1, hS.1, if_neg (nI_ge (by omega) (by omega)), ck_n _ (by omega) (by omega), nI_clamp (by omega), (RQ_S R (i := j) (by omega)).2.1, ni_s, nI_add]
    exact c_wea_l hg σ R t (j + 1) (by omega)
theorem c_kia_l (hg : ts_q g) (σ : ts_S) (R : RQ (σ g) ρ) : ∀ t j, j + t = nS ρ → H_X1_keptInAll_4 g (S_fd (fun a p => a + ρ (sx p 3)) j) (nI j) σ = some (some (.inl (S_fd (fun a p => a + ρ (sx p 3)) (nS ρ))), σ)
  | 0, j, e => by
    have hS := R.1.2.1
    rw [h_X1_keptInAll_4 hg, R.2.1.2.1, hS.1, if_pos (nI_le (by omega) (by omega))]
    rw [show j = nS ρ by omega]
  | t + 1, j, e => by
    have hS := R.1.2.1
    rw [h_X1_keptInAll_4 hg, R.2.1.2.1, hS.1, if_neg (nI_ge (by omega) (by omega)), ck_n _ (by omega) (by omega), nI_clamp (by omega), (RQ_S R (i := j) (by omega)).2.2.2.1, ni_s, nI_add]
    exact c_kia_l hg σ R t (j + 1) (by omega)
theorem c_spu_l (hg : ts_q g) (σ : ts_S) (R : RQ (σ g) ρ) : ∀ t j, j + t = 10 → H_X1_spotsInUse_4 g (S_fd (fun a p => if ρ (11 + p) = -1 then a else a + nI 1) j) (nI j) σ = some (some (.inl (S_fd (fun a p => if ρ (11 + p) = -1 then a else a + nI 1) 10)), σ)
  | 0, j, e => by
    rw [h_X1_spotsInUse_4 hg, if_pos (nI_le (by omega) (by omega))]
    rw [show j = 10 by omega]
  | t + 1, j, e => by
    have ih := c_spu_l hg σ R t (j + 1) (by omega)
    rw [S_fd] at ih
    rw [h_X1_spotsInUse_4 hg, if_neg (nI_ge (by omega) (by omega)), ck_n _ (by omega) (by omega), nI_clamp (by omega), R.2.2.2.1 j (by omega), nI_add]
    by_cases q : ρ (11 + j) = -1
    · rw [if_pos q] at ih ⊢; exact ih
    · rw [if_neg q] at ih ⊢; exact ih
end SD
theorem m_had_l (σ : ts_S) (W : WR (σ 6 1)) : ∀ t j, j + t = nP (σ 6 1) → H_X5_heard_4 (S_fd (fun a p => a ||| σ 6 1 (px p 0)) j) (nI j) σ = some (some (.inl (S_fd (fun a p => a ||| σ 6 1 (px p 0)) (nP (σ 6 1)))), σ)
  | 0, j, e => by
    have hP := W.2.2.1
    rw [h_X5_heard_4, ck_n _ (by omega) (by omega), hP.1, if_pos (nI_le (by omega) (by omega))]
    rw [show j = nP (σ 6 1) by omega]
  | t + 1, j, e => by
    have hP := W.2.2.1
    rw [h_X5_heard_4, ck_n _ (by omega) (by omega), hP.1, if_neg (nI_ge (by omega) (by omega)), m_personIs σ (by omega) (by omega), bi_s, ni_s, nI_add]
    exact m_had_l σ W t (j + 1) (by omega)
theorem m_kpt_l (σ : ts_S) (W : WR (σ 6 1)) : ∀ t j, j + t = nS (σ 6 1) → H_X5_allKept_4 (S_fd (fun a p => a ||| S_set (σ 6 1) p) j) (nI j) σ = some (some (.inl (S_fd (fun a p => a ||| S_set (σ 6 1) p) (nS (σ 6 1)))), σ)
  | 0, j, e => by
    have hS := W.2.1
    rw [h_X5_allKept_4, ck_n _ (by omega) (by omega), hS.1, if_pos (nI_le (by omega) (by omega))]
    rw [show j = nS (σ 6 1) by omega]
  | t + 1, j, e => by
    have hS := W.2.1
    rw [h_X5_allKept_4, ck_n _ (by omega) (by omega), hS.1, if_neg (nI_ge (by omega) (by omega)), m_keptSet σ (WR_okS W (by omega)), bi_s, ni_s, nI_add]
    exact m_kpt_l σ W t (j + 1) (by omega)
theorem m_ins_l (σ : ts_S) (W : WR (σ 6 1)) : ∀ t j, j + t = nP (σ 6 1) → H_X5_inside_4 (S_fd (fun a p => if σ 6 1 (px p 1) = -1 then a else a ||| (nI 1 <<< (nI p &&& nI 31))) j) (nI j) σ = some (some (.inl (S_fd (fun a p => if σ 6 1 (px p 1) = -1 then a else a ||| (nI 1 <<< (nI p &&& nI 31))) (nP (σ 6 1)))), σ)
  | 0, j, e => by
    have hP := W.2.2.1
    rw [h_X5_inside_4, ck_n _ (by omega) (by omega), hP.1, if_pos (nI_le (by omega) (by omega))]
    rw [show j = nP (σ 6 1) by omega]
  | t + 1, j, e => by
    have hP := W.2.2.1
    have hS := W.2.1
    have ih := m_ins_l σ W t (j + 1) (by omega)
    rw [S_fd] at ih
    rw [h_X5_inside_4, ck_n _ (by omega) (by omega), hP.1, if_neg (nI_ge (by omega) (by omega)), m_personIs σ (by omega) (by omega), bi_s, ni_s, ni_s, or_0, nI_add]
    rcases (WR_P W (p := j) (by omega)).2.1 with q | ⟨s, hs, q⟩
    · rw [if_pos q] at ih
      rw [q, if_neg m1ge]; exact ih
    · rw [if_neg (by rw [q]; exact nm (by omega))] at ih
      rw [q, if_pos (nge (by omega))]; exact ih
theorem m_mut_l (σ : ts_S) (W : WR (σ 6 1)) : ∀ t j, j + t = nP (σ 6 1) → H_X5_muteOnes_4 (S_fd (fun a p => if σ 6 1 (px p 0) = nI 0 then a ||| (nI 1 <<< (nI p &&& nI 31)) else a) j) (nI j) σ = some (some (.inl (S_fd (fun a p => if σ 6 1 (px p 0) = nI 0 then a ||| (nI 1 <<< (nI p &&& nI 31)) else a) (nP (σ 6 1)))), σ)
  | 0, j, e => by
    have hP := W.2.2.1
    rw [h_X5_muteOnes_4, ck_n _ (by omega) (by omega), hP.1, if_pos (nI_le (by omega) (by omega))]
    rw [show j = nP (σ 6 1) by omega]
  | t + 1, j, e => by
    have hP := W.2.2.1
    have ih := m_mut_l σ W t (j + 1) (by omega)
    rw [S_fd] at ih
    rw [h_X5_muteOnes_4, ck_n _ (by omega) (by omega), hP.1, if_neg (nI_ge (by omega) (by omega)), m_personIs σ (by omega) (by omega), bi_s, ni_s, ni_s, or_0, nI_add]
    by_cases q : σ 6 1 (px j 0) = nI 0
    · rw [if_pos q] at ih ⊢; exact ih
    · rw [if_neg q] at ih ⊢; exact ih
theorem m_sum_l {f : Nat} (hf : f < 9) (σ : ts_S) (W : WR (σ 6 1)) : ∀ t j, j + t = nS (σ 6 1) → H_X5_sumOf_4 (nI f) (S_fd (fun a p => a + σ 6 1 (sx p f)) j) (nI j) σ = some (some (.inl (S_fd (fun a p => a + σ 6 1 (sx p f)) (nS (σ 6 1)))), σ)
  | 0, j, e => by
    have hS := W.2.1
    rw [h_X5_sumOf_4, ck_n _ (by omega) (by omega), hS.1, if_pos (nI_le (by omega) (by omega))]
    rw [show j = nS (σ 6 1) by omega]
  | t + 1, j, e => by
    have hS := W.2.1
    rw [h_X5_sumOf_4, ck_n _ (by omega) (by omega), hS.1, if_neg (nI_ge (by omega) (by omega)), m_sillIs σ (by omega) hf, bi_s, ni_s, nI_add]
    exact m_sum_l hf σ W t (j + 1) (by omega)
theorem m_spu_l (v : Int32) (σ : ts_S) (W : WR (σ 6 1)) : ∀ t j, j + t = 10 → H_X5_count_96 v (S_fd (fun a p => if σ 6 1 (11 + p) = -1 then a else a + nI 1) j) (nI j) σ = some (some (.inl (S_fd (fun a p => if σ 6 1 (11 + p) = -1 then a else a + nI 1) 10)), σ)
  | 0, j, e => by
    rw [h_X5_count_96, if_pos (nI_le (by omega) (by omega))]
    rw [show j = 10 by omega]
  | t + 1, j, e => by
    have hS := W.2.1
    have ih := m_spu_l v σ W t (j + 1) (by omega)
    rw [S_fd] at ih
    rw [h_X5_count_96, if_neg (nI_ge (by omega) (by omega)), nI_add, ck_n _ (by omega) (by omega), nI_clamp (by omega), ni_s, ni_s, add_0, nI_add]
    rcases W.2.2.2.2.2.1 j (by omega) with q | ⟨s, hs, q⟩
    · rw [if_pos q] at ih
      rw [q, if_neg m1ge]; exact ih
    · rw [if_neg (by rw [q]; exact nm (by omega))] at ih
      rw [q, if_pos (nge (by omega))]; exact ih
theorem k3n {a b : Nat} (h : (Nat.beq a b) = false) (ha : a < 2 ^ 31 := by decide) (hb : b < 2 ^ 31 := by decide) : ¬ nI a = nI b := ki_eq ha hb (fun e => by rw [e] at h; have := Nat.beq_refl b; rw [this] at h; cases h)
theorem sim_now (a1 : Int32) : SIM F_X4_now F_X5_now [.inl a1] := by
  intro σ I
  have R := INV_R I
  have W := R.1
  by_cases q0 : a1 = nI 0
  · apply sim_mk (h3 := I)
    · rw [e_X4_now, if_pos q0]
    · rw [e_X5_now, if_pos q0, ck_n _ (by omega) (by omega), R.2.1.1]
  by_cases q1 : a1 = nI 1
  · apply sim_mk (h3 := I)
    · rw [e_X4_now, if_neg q0, if_pos q1]
    · rw [e_X5_now, if_neg q0, if_pos q1, ck_n _ (by omega) (by omega), R.2.1.2.2.2.2]
  by_cases q2 : a1 = nI 2
  · apply sim_mk (h3 := I)
    · rw [e_X4_now, if_neg q0, if_neg q1, if_pos q2, e_X1_wordsHad hq1]
      erw [c_had_l hq1 σ R (nP (σ 6 1)) 0 (by omega)]
      rw [bi_s]
    · rw [e_X5_now, if_neg q0, if_neg q1, if_pos q2, e_X5_heard]
      erw [m_had_l σ W (nP (σ 6 1)) 0 (by omega)]
      rw [bi_s]
  by_cases q3 : a1 = nI 3
  · apply sim_mk (h3 := I)
    · rw [e_X4_now, if_neg q0, if_neg q1, if_neg q2, if_pos q3, e_X1_wordsKept hq1]
      erw [c_kpt_l hq1 σ R (nS (σ 6 1)) 0 (by omega)]
      rw [bi_s]
    · rw [e_X5_now, if_neg q0, if_neg q1, if_neg q2, if_pos q3, e_X5_allKept]
      erw [m_kpt_l σ W (nS (σ 6 1)) 0 (by omega)]
      rw [bi_s]
  by_cases q4 : a1 = nI 4
  · apply sim_mk (h3 := I)
    · rw [e_X4_now, if_neg q0, if_neg q1, if_neg q2, if_neg q3, if_pos q4, e_X1_peopleInside hq1]
      erw [c_ins_l hq1 σ R (nP (σ 6 1)) 0 (by omega)]
      rw [bi_s]
    · rw [e_X5_now, if_neg q0, if_neg q1, if_neg q2, if_neg q3, if_pos q4, e_X5_inside]
      erw [m_ins_l σ W (nP (σ 6 1)) 0 (by omega)]
      rw [bi_s]
  by_cases q5 : a1 = nI 5
  · apply sim_mk (h3 := I)
    · rw [e_X4_now, if_neg q0, if_neg q1, if_neg q2, if_neg q3, if_neg q4, if_pos q5, e_X1_peopleWithoutWords hq1]
      erw [c_mut_l hq1 σ R (nP (σ 6 1)) 0 (by omega)]
      rw [bi_s]
    · rw [e_X5_now, if_neg q0, if_neg q1, if_neg q2, if_neg q3, if_neg q4, if_pos q5, e_X5_muteOnes]
      erw [m_mut_l σ W (nP (σ 6 1)) 0 (by omega)]
      rw [bi_s]
  by_cases q6 : a1 = nI 6
  · apply sim_mk (h3 := I)
    · rw [e_X4_now, if_neg q0, if_neg q1, if_neg q2, if_neg q3, if_neg q4, if_neg q5, if_pos q6, e_X1_wearOfAll hq1]
      erw [c_wea_l hq1 σ R (nS (σ 6 1)) 0 (by omega)]
      rw [bi_s]
    · rw [e_X5_now, if_neg q0, if_neg q1, if_neg q2, if_neg q3, if_neg q4, if_neg q5, if_pos q6, e_X5_sumOf]
      erw [m_sum_l (f := 1) (by omega) σ W (nS (σ 6 1)) 0 (by omega)]
      rw [bi_s]
  by_cases q7 : a1 = nI 7
  · apply sim_mk (h3 := I)
    · rw [e_X4_now, if_neg q0, if_neg q1, if_neg q2, if_neg q3, if_neg q4, if_neg q5, if_neg q6, if_pos q7, e_X1_keptInAll hq1]
      erw [c_kia_l hq1 σ R (nS (σ 6 1)) 0 (by omega)]
      rw [bi_s]
    · rw [e_X5_now, if_neg q0, if_neg q1, if_neg q2, if_neg q3, if_neg q4, if_neg q5, if_neg q6, if_pos q7, e_X5_sumOf]
      erw [m_sum_l (f := 3) (by omega) σ W (nS (σ 6 1)) 0 (by omega)]
      rw [bi_s]
  obtain ⟨A, e1, σ2, e2, I2⟩ := find0 I
  apply sim_mk (h3 := I2)
  · rw [e_X4_now, if_neg q0, if_neg q1, if_neg q2, if_neg q3, if_neg q4, if_neg q5, if_neg q6, if_neg q7, e1, bi_s]
  · rw [e_X5_now, if_neg q0, if_neg q1, if_neg q2, if_neg q3, if_neg q4, if_neg q5, if_neg q6, if_neg q7, e2, bi_s]
theorem sim_count (a1 : Int32) : SIM F_X4_count F_X5_count [.inl a1] := by
  intro σ I
  have R := INV_R I
  have W := R.1
  by_cases q0 : a1 = nI 0
  · apply sim_mk (h3 := I)
    · rw [e_X4_count, if_pos q0]
    · rw [e_X5_count, if_pos q0, ck_n _ (by omega) (by omega), R.2.1.1]
  by_cases q1 : a1 = nI 1
  · apply sim_mk (h3 := I)
    · rw [e_X4_count, if_neg q0, if_pos q1]
    · rw [e_X5_count, if_neg q0, if_pos q1, ck_n _ (by omega) (by omega), R.2.1.2.1]
  by_cases q2 : a1 = nI 2
  · apply sim_mk (h3 := I)
    · rw [e_X4_count, if_neg q0, if_neg q1, if_pos q2]
    · rw [e_X5_count, if_neg q0, if_neg q1, if_pos q2, ck_n _ (by omega) (by omega), R.2.1.2.2.2.1]
  by_cases q3 : a1 = nI 3
  · apply sim_mk (h3 := I)
    · rw [e_X4_count, if_neg q0, if_neg q1, if_neg q2, if_pos q3]
    · rw [e_X5_count, if_neg q0, if_neg q1, if_neg q2, if_pos q3, ck_n _ (by omega) (by omega), R.2.1.2.2.2.2]
  by_cases q4 : a1 = nI 4
  · apply sim_mk (h3 := I)
    · rw [e_X4_count, if_neg q0, if_neg q1, if_neg q2, if_neg q3, if_pos q4, e_X1_keptInAll hq1]
      erw [c_kia_l hq1 σ R (nS (σ 6 1)) 0 (by omega)]
      rw [bi_s]
    · rw [e_X5_count, if_neg q0, if_neg q1, if_neg q2, if_neg q3, if_pos q4, e_X5_sumOf]
      erw [m_sum_l (f := 3) (by omega) σ W (nS (σ 6 1)) 0 (by omega)]
      rw [bi_s]
  by_cases q5 : a1 = nI 5
  · apply sim_mk (h3 := I)
    · rw [e_X4_count, if_neg q0, if_neg q1, if_neg q2, if_neg q3, if_neg q4, if_pos q5]
    · rw [e_X5_count, if_neg q0, if_neg q1, if_neg q2, if_neg q3, if_neg q4, if_pos q5, I.2.2.2.1.1]
  by_cases q6 : a1 = nI 6
  · apply sim_mk (h3 := I)
    · rw [e_X4_count, if_neg q0, if_neg q1, if_neg q2, if_neg q3, if_neg q4, if_neg q5, if_pos q6]
    · rw [e_X5_count, if_neg q0, if_neg q1, if_neg q2, if_neg q3, if_neg q4, if_neg q5, if_pos q6, ck_n _ (by omega) (by omega), R.2.1.2.2.1]
  by_cases q7 : a1 = nI 7
  · apply sim_mk (h3 := I)
    · rw [e_X4_count, if_neg q0, if_neg q1, if_neg q2, if_neg q3, if_neg q4, if_neg q5, if_neg q6, if_pos q7, e_X1_spotsInUse hq1]
      erw [c_spu_l hq1 σ R 10 0 (by omega)]
      rw [bi_s]
    · rw [e_X5_count, if_neg q0, if_neg q1, if_neg q2, if_neg q3, if_neg q4, if_neg q5, if_neg q6, if_pos q7]
      erw [m_spu_l _ σ W 10 0 (by omega)]
  obtain ⟨A, e1, σ2, e2, I2⟩ := find0 I
  apply sim_mk (h3 := I2)
  · rw [e_X4_count, if_neg q0, if_neg q1, if_neg q2, if_neg q3, if_neg q4, if_neg q5, if_neg q6, if_neg q7, e1, bi_s]
  · rw [e_X5_count, if_neg q0, if_neg q1, if_neg q2, if_neg q3, if_neg q4, if_neg q5, if_neg q6, if_neg q7, e2, bi_s]
