/-! load -/
def S_ld (u : Nat → Int32) (b : Nat) : Nat → Nat → (Nat → Int32) → Int32 × (Nat → Int32)
  | 0, j, ρ => (nI j, ρ)
  | t + 1, j, ρ => if nI 0 ≤ u (b + j) ∧ u (b + j) < nI 4096 then S_ld u b t (j + 1) (upd ρ (px j 0) (u (b + j))) else (nI j, ρ)
theorem WR_ldh {ρ : Nat → Int32} (W : WR ρ) {j : Nat} {x : Int32} (hj : j < nP ρ) (hx : nI 0 ≤ x ∧ x < nI 4096) : WR (upd ρ (px j 0) x) := by
  obtain ⟨k, hk, rfl⟩ := in_of (by omega) hx
  exact WR_has W hj ⟨k, hk, rfl⟩
theorem c_load_l {u : Nat → Int32} {s m : Nat} (hs : s < 4) (hm : m ≤ 40) : ∀ t j (σ : ts_S) (ρ : Nat → Int32), j + t = m → RQ (σ 1) ρ → m ≤ nP ρ → (∀ i, i < m → σ 5 3 (40 * s + i) = u (40 * s + i)) → ∃ τ, H_X4_load_53 (nI s) (nI m) (nI j) σ = some (some (.inl (S_ld u (40 * s) t j ρ).1), va_up σ 1 τ) ∧ RQ τ (S_ld u (40 * s) t j ρ).2
  | 0, j, σ, ρ, e, R, hp, hu => ⟨σ 1, by rw [h_X4_load_53, if_pos (nI_le (by omega) (by omega)), up_id, S_ld, show m = j by omega], R⟩
  | t + 1, j, σ, ρ, e, R, hp, hu => by
    have p6 := WR_p6 R.1 (p := j) (by omega)
    rw [h_X4_load_53, if_neg (nI_ge (by omega) (by omega)), x_numberAt hs (by omega), bi_s, hu j (by omega), S_ld, nI_add]
    by_cases q : nI 0 ≤ u (40 * s + j) ∧ u (40 * s + j) < nI 4096
    · have W' := WR_ldh R.1 (j := j) (by omega) q
      have R1 := RQ_px R (p := j) (f := 0) (by omega) (by omega) W'
      obtain ⟨τ, e1, R2⟩ := c_load_l hs hm t (j + 1) (va_up σ 1 (qu (σ 1) 7 j (u (40 * s + j)))) (upd ρ (px j 0) (u (40 * s + j))) (by omega) (by rw [up_at]; exact R1) (by rw [nP_upd (by unfold px; omega)]; exact hp) hu
      rw [up_uu] at e1
      rw [cw_t (n := 4095) σ (by omega) q, bi_s, if_neg n10, ck_n _ p6 (by omega), nw_s, nI_clamp (by omega), qu_up, if_pos q]
      exact ⟨τ, e1, R2⟩
    · rw [cw_f (n := 4095) σ (by omega) q, bi_s, if_pos rfl, if_neg q]
      exact ⟨σ 1, by rw [up_id], R⟩
theorem m_load_l {s n : Nat} (hs : s < 4) (hn : n ≤ 40) : ∀ t j (σ : ts_S), WR (σ 6 1) → σ 6 9 s = nI n → j + t = (if nP (σ 6 1) < n then nP (σ 6 1) else n) → H_X5_load_22 (nI s) (nI j) σ = some (some (.inl (S_ld (σ 6 10) (40 * s) t j (σ 6 1)).1), mr σ (S_ld (σ 6 10) (40 * s) t j (σ 6 1)).2)
  | 0, j, σ, W, hz, e => by
    have hP := W.2.2.1
    rw [h_X5_load_22, ck_n _ hs (by omega), nI_clamp (by omega), hz, S_ld, mr_id]
    by_cases q : nP (σ 6 1) < n
    · rw [if_pos q] at e
      rw [if_neg (nI_ge (by omega) (by omega)), mp_f σ W (fun z => by have := (nI_ltI (by omega) (by omega)).mp z.2; omega), bi_s, if_pos rfl]
    · rw [if_neg q] at e
      rw [if_pos (nI_le (by omega) (by omega))]
  | t + 1, j, σ, W, hz, e => by
    have hP := W.2.2.1
    have hj : j < n ∧ j < nP (σ 6 1) := by
      by_cases q : nP (σ 6 1) < n
      · rw [if_pos q] at e; omega
      · rw [if_neg q] at e; omega
    have p6 := WR_p6 W hj.2
    have q0 : px j 0 < 111 := px_lt p6 (by omega)
    rw [h_X5_load_22, ck_n _ hs (by omega), nI_clamp (by omega), hz, if_neg (nI_ge (by omega) (by omega)), mp_t σ W ⟨nge (by omega), nI_lt hj.2 (by omega)⟩, bi_s, if_neg n10, pk_mul, nI_add, ck_n _ (by omega) (by omega), nI_clamp (by omega), S_ld]
    by_cases q : nI 0 ≤ σ 6 10 (40 * s + j) ∧ σ 6 10 (40 * s + j) < nI 4096
    · have W' := WR_ldh W hj.2 q
      have ih := m_load_l hs hn t (j + 1) (mr σ (upd (σ 6 1) (px j 0) (σ 6 10 (40 * s + j)))) W' hz (by rw [mr_rd, nP_upd (by unfold px; omega)]; omega)
      have r10 : (mr σ (upd (σ 6 1) (px j 0) (σ 6 10 (40 * s + j)))) 6 10 = σ 6 10 := rfl
      rw [mr_rd, r10, mr_mr] at ih
      rw [set_t σ q, bi_s, if_neg n10, m_personAt, bi_s, ck_n _ (by omega) (by omega), ck_n _ q0 (by omega), nw_s, nI_clamp (by omega), mr_up, nI_add, ih, if_pos q]
    · rw [set_f σ q, bi_s, if_pos rfl, if_neg q, mr_id]
theorem sim_load (a1 : Int32) : SIM F_X4_load F_X5_load [.inl a1] := by
  intro σ I
  have R := INV_R I
  have W := R.1
  have hP := W.2.2.1
  by_cases h1 : nI 0 ≤ a1 ∧ a1 < nI 4
  · obtain ⟨s, hs, rfl⟩ := in_of (by omega) h1
    obtain ⟨b1, b2, b3, n, hn, bn, bu⟩ := SH_s I hs
    by_cases hm : σ 6 8 s = nI 0
    · obtain ⟨A, e1, σ2, e2, I2⟩ := find5 I
      apply sim_mk (h3 := I2)
      · rw [e_X4_load, below_t σ h1, bi_s, if_neg n10, x_missing_t hs σ (by rw [b1]; exact hm), bi_s, if_neg n10, e1, bi_s]
      · rw [e_X5_load, m_lacks_m hs _ (va_up σ 0 A) hm, bi_s, if_neg c90, m_lacks_m hs _ (va_up σ 0 A) hm, bi_s, e2, bi_s]
    · have em : (if nI (nP (σ 6 1)) < nI n then nI (nP (σ 6 1)) else nI n) = nI (if nP (σ 6 1) < n then nP (σ 6 1) else n) := by
        by_cases q : nP (σ 6 1) < n
        · rw [if_pos q, if_pos (nI_lt q (by omega))]
        · rw [if_neg q, if_neg (nI_nlt (by omega) (by omega))]
      have lm : (if nP (σ 6 1) < n then nP (σ 6 1) else n) ≤ n ∧ (if nP (σ 6 1) < n then nP (σ 6 1) else n) ≤ nP (σ 6 1) := by
        by_cases q : nP (σ 6 1) < n
        · rw [if_pos q]; omega
        · rw [if_neg q]; omega
      obtain ⟨τ, e1, R1⟩ := c_load_l (u := σ 6 10) hs (show (if nP (σ 6 1) < n then nP (σ 6 1) else n) ≤ 40 by omega) (if nP (σ 6 1) < n then nP (σ 6 1) else n) 0 σ (σ 6 1) (by omega) R lm.2 (fun i hi => bu i (by omega))
      apply sim_mk (h3 := INV_q I R1)
      · rw [e_X4_load, below_t σ h1, bi_s, if_neg n10, x_missing_f hs σ (by rw [b1]; exact hm), bi_s, if_pos rfl, ck_n _ hs (by omega), nI_clamp (by omega), b2, bn, R.2.1.2.2.2.1, hP.1, min_e, bi_s, em]
        exact e1
      · rw [e_X5_load, m_lacks_1 hs (va_up σ 1 τ) hm, bi_s, if_pos rfl]
        exact m_load_l hs hn (if nP (σ 6 1) < n then nP (σ 6 1) else n) 0 (va_up σ 1 τ) W bn (by omega)
  · obtain ⟨A, e1, σ2, e2, I2⟩ := find0 I
    apply sim_mk (h3 := I2)
    · rw [e_X4_load, below_f σ h1, bi_s, if_pos rfl, e1, bi_s]
    · rw [e_X5_load, m_lacks_b _ _ h1, bi_s, if_neg c95, m_lacks_b _ _ h1, bi_s, e2, bi_s]
/-! judge -/
def K0 (ρ : Nat → Int32) : Nat := if nS ρ = 0 then 0 else nK ρ 0
def S_jg (ρ u : Nat → Int32) (b : Nat) : Nat → Nat → Int32
  | 0, _ => nI 0
  | t + 1, j => if j < K0 ρ ∧ ρ (sx 0 (4 + j)) = u (b + j) then S_jg ρ u b t (j + 1) else nI (1 + j)
theorem c_judge_l {ρ u : Nat → Int32} {s n : Nat} (hs : s < 4) (hn : n ≤ 40) (σ : ts_S) (R : RQ (σ 1) ρ) (hz : σ 5 2 s = nI n) (hu : ∀ i, i < n → σ 5 3 (40 * s + i) = u (40 * s + i)) : ∀ t j, j + t = n → H_X4_judge_33 (nI s) (nI j) σ = some (some (.inl (S_jg ρ u (40 * s) t j)), σ)
  | 0, j, e => by
    rw [h_X4_judge_33, ck_n _ hs (by omega), nI_clamp (by omega), hz, if_pos (nI_le (by omega) (by omega)), S_jg]
  | t + 1, j, e => by
    have W := R.1
    have hS := W.2.1
    rw [h_X4_judge_33, ck_n _ hs (by omega), nI_clamp (by omega), hz, if_neg (nI_ge (by omega) (by omega)), S_jg, nI_add, nI_add]
    by_cases q : j < K0 ρ
    · unfold K0 at q
      by_cases z : nS ρ = 0
      · rw [if_pos z] at q; omega
      · rw [if_neg z] at q
        obtain ⟨w, hw, ew⟩ := (WR_S W (i := 0) (by omega)).2.2.2.2 j q
        have q' : j < K0 ρ := by unfold K0; rw [if_neg z]; exact q
        rw [c_keptAt hq1 σ R (by omega) q, bi_s, ew, if_neg (nm (by omega)), x_numberAt hs (by omega), bi_s, hu j (by omega), c_judge_l hs hn σ R hz hu t (j + 1) (by omega)]
        by_cases y : nI w = u (40 * s + j)
        · rw [if_pos y, if_pos ⟨q', y⟩]
        · rw [if_neg y, if_neg (fun v => y v.2)]
    · have ka : F_X1_keptAt [.inr (.inr (.inl (1, 0))), .inl (nI 0), .inl (nI j)] σ = some (some (.inl (-1)), σ) := by
        rw [e_X1_keptAt hq1, R.2.1.2.1, hS.1]
        by_cases z : nS ρ = 0
        · rw [z, below_nf σ (by omega) (by omega), bi_s, if_pos rfl]
        · have ok := okS_k (WR_okS W (i := 0) (by omega))
          have q2 : ¬ j < nK ρ 0 := fun y => q (by unfold K0; rw [if_neg z]; exact y)
          rw [below_n σ (show 0 < nS ρ by omega) (by omega), bi_s, if_neg n10, ck_n _ (by omega) (by omega)]
          have z0 : (nI 0).toNatClampNeg = 0 := by decide
          rw [z0, (RQ_S R (i := 0) (by omega)).2.2.2.1, ok.1, below_nf σ q2 (by omega), bi_s, if_pos rfl]
      rw [ka, bi_s, if_pos rfl, if_neg (fun v => q v.1)]
theorem m_judge_l {s n : Nat} (hs : s < 4) (hn : n ≤ 40) (σ : ts_S) (W : WR (σ 6 1)) (hz : σ 6 9 s = nI n) : ∀ t j, j + t = n → H_X5_judge_42 (nI s) (nI (K0 (σ 6 1))) (nI j) σ = some (some (.inl (S_jg (σ 6 1) (σ 6 10) (40 * s) t j)), σ)
  | 0, j, e => by
    rw [h_X5_judge_42, ck_n _ hs (by omega), nI_clamp (by omega), hz, if_pos (nI_le (by omega) (by omega)), ck_n _ hs (by omega), if_pos (by rw [show j = n by omega]), S_jg]
  | t + 1, j, e => by
    have hS := W.2.1
    have nj : ¬ nI j = nI n := ki_eq (by omega) (by omega) (by omega)
    have k5 : K0 (σ 6 1) ≤ 5 := by
      unfold K0
      by_cases z : nS (σ 6 1) = 0
      · rw [if_pos z]; omega
      · rw [if_neg z]; exact (okS_k (WR_okS W (i := 0) (by omega))).2
    rw [h_X5_judge_42, ck_n _ hs (by omega), nI_clamp (by omega), hz, if_neg (nI_ge (by omega) (by omega)), S_jg, nI_add, nI_add]
    by_cases q : j < K0 (σ 6 1)
    · have ih := m_judge_l hs hn σ W hz t (j + 1) (by omega)
      rw [if_neg (nI_ge q (by omega)), pk_mul, nI_add, ck_n _ (by omega) (by omega), nI_add, m_sillIs σ (by omega) (by omega), bi_s, nI_clamp (by omega), ih, ck_n _ hs (by omega), hz]
      by_cases y : σ 6 10 (40 * s + j) = σ 6 1 (sx 0 (4 + j))
      · rw [if_pos y, if_pos ⟨q, y.symm⟩]
      · rw [if_neg y, if_neg nj, if_neg (fun v => y v.2.symm)]
    · rw [if_pos (nI_le (by omega) (by omega)), ck_n _ hs (by omega), if_neg nj, if_neg (fun v => q v.1)]
theorem sim_judge (a1 : Int32) : SIM F_X4_judge F_X5_judge [.inl a1] := by
  intro σ I
  have R := INV_R I
  have W := R.1
  have hS := W.2.1
  by_cases h1 : nI 0 ≤ a1 ∧ a1 < nI 4
  · obtain ⟨s, hs, rfl⟩ := in_of (by omega) h1
    obtain ⟨b1, b2, b3, n, hn, bn, bu⟩ := SH_s I hs
    by_cases hm : σ 6 8 s = nI 0
    · obtain ⟨A, e1, σ2, e2, I2⟩ := find5 I
      apply sim_mk (h3 := I2)
      · rw [e_X4_judge, below_t σ h1, bi_s, if_neg n10, x_missing_t hs σ (by rw [b1]; exact hm), bi_s, if_neg n10, e1, bi_s]
      · rw [e_X5_judge, m_lacks_m hs _ (va_up σ 0 A) hm, bi_s, if_neg c90, m_lacks_m hs _ (va_up σ 0 A) hm, bi_s, e2, bi_s]
    · have e1 := c_judge_l (ρ := σ 6 1) (u := σ 6 10) hs hn σ R (by rw [b2]; exact bn) bu n 0 (by omega)
      have e2 := m_judge_l hs hn σ W bn n 0 (by omega)
      apply sim_mk (h3 := I)
      · rw [e_X4_judge, below_t σ h1, bi_s, if_neg n10, x_missing_f hs σ (by rw [b1]; exact hm), bi_s, if_pos rfl]
        exact e1
      · rw [e_X5_judge, m_lacks_1 hs σ hm, bi_s, if_pos rfl, ck_n _ (by omega) (by omega), ← e2]
        unfold K0
        by_cases z : nS (σ 6 1) = 0
        · rw [hS.1, z, if_pos rfl, if_pos rfl]
        · rw [if_neg z, hS.1, if_neg (ki_eq (by omega) (by omega) z), m_sillIs σ (by omega) (by omega), bi_s, (okS_k (WR_okS W (i := 0) (by omega))).1]
  · obtain ⟨A, e1, σ2, e2, I2⟩ := find0 I
    apply sim_mk (h3 := I2)
    · rw [e_X4_judge, below_f σ h1, bi_s, if_pos rfl, e1, bi_s]
    · rw [e_X5_judge, m_lacks_b _ _ h1, bi_s, if_neg c95, m_lacks_b _ _ h1, bi_s, e2, bi_s]
/-! copy -/
theorem rng_n {s : Nat} (hs : s < 4) {a b : Int32} (σ : ts_S) (h : a < nI 0 ∨ b < nI 0) : F_X2_hasRange [.inr (.inr (.inl (5, 0))), .inl (nI s), .inl a, .inl b] σ = some (some (.inl (nI 0)), σ) := by
  rw [e_X2_hasRange]
  rcases h with h | h
  · rw [if_pos h]
  · rw [if_pos h]; split <;> rfl
theorem rng {s x n z : Nat} (hs : s < 4) (hx : x < 2 ^ 31) (hn : n < 2 ^ 31) (hz : z ≤ 40) (σ : ts_S) (h : σ 5 2 s = nI z) : F_X2_hasRange [.inr (.inr (.inl (5, 0))), .inl (nI s), .inl (nI x), .inl (nI n)] σ = some (some (.inl (if x + n ≤ z then nI 1 else nI 0)), σ) := by
  rw [e_X2_hasRange, if_neg (nn hx), if_neg (nn hn), ck_n _ hs (by omega), nI_clamp (by omega), h]
  by_cases q : z < n
  · rw [if_pos (nI_lt q hn), if_neg (by omega)]
  · rw [if_neg (nI_nlt (by omega) (by omega)), ck_n _ hs (by omega), pk_sub (by omega)]
    by_cases y : x + n ≤ z
    · rw [if_neg (nI_nlt (by omega) (by omega)), if_pos y]
    · rw [if_pos (nI_lt (by omega) hx), if_neg y]
theorem lgc {a b : Nat} (ha : a < 2 ^ 33) (hb : b < 2 ^ 33) : (nI 0 < lg_cmp (lN a) (lN b) ↔ b < a) ∧ (lg_cmp (lN a) (lN b) ≤ nI 0 ↔ a ≤ b) := by
  unfold lg_cmp
  by_cases h : b < a
  · rw [if_pos (show lN a > lN b from (pk_lLT (by omega) (by omega)).mpr h)]
    exact ⟨⟨fun _ => h, fun _ => by decide⟩, ⟨fun y => absurd y (by decide), fun y => by omega⟩⟩
  · rw [if_neg (show ¬ lN a > lN b from fun y => h ((pk_lLT (by omega) (by omega)).mp y))]
    by_cases e : a = b
    · rw [if_pos (by rw [e])]
      exact ⟨⟨fun y => absurd y (by decide), fun y => absurd y h⟩, ⟨fun _ => by omega, fun _ => by decide⟩⟩
    · rw [if_neg (fun y => e ((pk_lEQ (by omega) (by omega)).mp y))]
      exact ⟨⟨fun y => absurd y (by decide), fun y => absurd y h⟩, ⟨fun _ => by omega, fun _ => by decide⟩⟩
theorem m_cp1 {s1 x n : Nat} (v3 v4 : Int32) (h1 : s1 < 4) (hx : x + n ≤ 40) : ∀ t j (σ : ts_S), j + t = n → ∃ f : Nat → Int32, H_X5_copy_128 (nI s1) (nI x) v3 v4 (nI n) (nI j) σ = H_X5_copy_165 (nI s1) (nI x) v3 v4 (nI n) (nI 0) (va_up σ 6 (va_up (σ 6) 11 f)) ∧ ∀ i, i < n → (i < j → σ 6 11 i = σ 6 10 (40 * s1 + x + i)) → f i = σ 6 10 (40 * s1 + x + i)
  | 0, j, σ, e => ⟨σ 6 11, by rw [h_X5_copy_128, if_pos (nI_le (by omega) (by omega)), up_id, up_id], fun i hi h => h (by omega)⟩
  | t + 1, j, σ, e => by
    obtain ⟨f, e1, f1⟩ := m_cp1 v3 v4 h1 hx t (j + 1) (va_up σ 6 (qu (σ 6) 11 j (σ 6 10 (40 * s1 + x + j)))) (by omega)
    have r11 : (va_up σ 6 (qu (σ 6) 11 j (σ 6 10 (40 * s1 + x + j)))) 6 11 = upd (σ 6 11) j (σ 6 10 (40 * s1 + x + j)) := by rw [up_at]; unfold qu; rw [up_at]
    have r10 : (va_up σ 6 (qu (σ 6) 11 j (σ 6 10 (40 * s1 + x + j)))) 6 10 = σ 6 10 := rfl
    rw [r11, r10] at f1
    rw [up_uu, up_at] at e1
    unfold qu at e1
    rw [up_uu] at e1
    refine ⟨f, ?_, fun i hi h => f1 i hi (fun hj => ?_)⟩
    · rw [h_X5_copy_128, if_neg (nI_ge (by omega) (by omega)), pk_mul, nI_add, nI_add, ck_n _ (by omega) (by omega), ck_n _ (by omega) (by omega), nw_s, nI_clamp (by omega), nI_clamp (by omega), qu_up, nI_add]
      exact e1
    · by_cases q : i = j
      · subst q; exact upd_at _ _ _
      · rw [upd_ne _ _ q]; exact h (by omega)
theorem m_cp2 {s3 y n : Nat} (v1 v2 : Int32) (h3 : s3 < 4) (hy : y + n ≤ 40) : ∀ t j (σ : ts_S), j + t = n → ∃ f : Nat → Int32, H_X5_copy_165 v1 v2 (nI s3) (nI y) (nI n) (nI j) σ = some (some (.inl (nI n)), va_up σ 6 (va_up (σ 6) 10 f)) ∧ (∀ i, i < n → (i < j → σ 6 10 (40 * s3 + y + i) = σ 6 11 i) → f (40 * s3 + y + i) = σ 6 11 i) ∧ ∀ a, ¬ (40 * s3 + y ≤ a ∧ a < 40 * s3 + y + n) → f a = σ 6 10 a
  | 0, j, σ, e => ⟨σ 6 10, by rw [h_X5_copy_165, if_pos (nI_le (by omega) (by omega)), up_id, up_id], fun i hi h => h (by omega), fun a _ => rfl⟩
  | t + 1, j, σ, e => by
    obtain ⟨f, e1, f1, f2⟩ := m_cp2 v1 v2 h3 hy t (j + 1) (va_up σ 6 (qu (σ 6) 10 (40 * s3 + y + j) (σ 6 11 j))) (by omega)
    have r10 : (va_up σ 6 (qu (σ 6) 10 (40 * s3 + y + j) (σ 6 11 j))) 6 10 = upd (σ 6 10) (40 * s3 + y + j) (σ 6 11 j) := by rw [up_at]; unfold qu; rw [up_at]
    have r11 : (va_up σ 6 (qu (σ 6) 10 (40 * s3 + y + j) (σ 6 11 j))) 6 11 = σ 6 11 := rfl
    rw [r11, r10] at f1
    rw [r10] at f2
    rw [up_uu, up_at] at e1
    unfold qu at e1
    rw [up_uu] at e1
    refine ⟨f, ?_, fun i hi h => f1 i hi (fun hj => ?_), fun a ha => ?_⟩
    · rw [h_X5_copy_165, if_neg (nI_ge (by omega) (by omega)), pk_mul, nI_add, nI_add, ck_n _ (by omega) (by omega), ck_n _ (by omega) (by omega), nw_s, nI_clamp (by omega), nI_clamp (by omega), qu_up, nI_add]
      exact e1
    · by_cases q : i = j
      · subst q; exact upd_at _ _ _
      · rw [upd_ne _ _ (by omega)]; exact h (by omega)
    · rw [f2 a ha, upd_ne _ _ (by omega)]
