/-! load -/
def S_ld (u : Nat → Int32) (b : Nat) : Nat → Nat → (Nat → Int32) → Int32 × (Nat → Int32)
  | 0, j, ρ => (nI j, ρ)
  | t + 1, j, ρ => if nI 0 ≤ u (b + j) ∧ u (b + j) < nI 4096 then S_ld u b t (j + 1) (upd ρ (px j 0) (u (b + j))) else (nI j, ρ)
theorem WR_ldh {ρ : Nat → Int32} (W : WR ρ) {j : Nat} {x : Int32} (hj : j < nP ρ) (hx : nI 0 ≤ x ∧ x < nI 4096) : WR (upd ρ (px j 0) x) := by
  obtain ⟨k, hk, rfl⟩ := in_of (by omega) hx
  exact WR_has W hj ⟨k, hk, rfl⟩
theorem c_load_l {u : Nat → Int32} {s m : Nat} (hs : s < 4) (hm : m ≤ 40) : ∀ t j (σ : ts_S) (ρ : Nat → Int32), j + t = m → RQ (σ 1) ρ → m ≤ nP ρ → (∀ i, i < m → σ 5 3 (40 * s + i) = u (40 * s + i)) → ∃ τ, H_X4_load_53 (nI s) (nI m) (nI j) σ = some (some (.inl (S_ld u (40 * s) t j ρ).1), va_up σ 1 τ) ∧ RQ τ (S_ld u (40 * s) t j ρ).2
  | 0, j, σ, ρ, e, R, hp, hu => ⟨σ 1, by rw [h_X4_load_53, if_pos (nI_le (by omega) (by omega)), up_id, S_ld, show m = j by omega], R⟩
  | t + 1, j, σ, ρ, e, R, hp, hu => by
    have p6 := WR_p6 R.1 (p := j) (by omega)
    rw [h_X4_load_53, if_neg (nI_ge (by omega) (by omega)), x_numberAt hs (by omega), bi_s, hu j (by omega), S_ld, nI_add]
    by_cases q : nI 0 ≤ u (40 * s + j) ∧ u (40 * s + j) < nI 4096
    · have W' := WR_ldh R.1 (j := j) (by omega) q
      have R1 := RQ_px R (p := j) (f := 0) (by omega) (by omega) W'
      obtain ⟨τ, e1, R2⟩ := c_load_l hs hm t (j + 1) (va_up σ 1 (qu (σ 1) 7 j (u (40 * s + j)))) (upd ρ (px j 0) (u (40 * s + j))) (by omega) (by rw [up_at]; exact R1) (by rw [nP_upd (by unfold px; omega)]; exact hp) hu
      rw [up_uu] at e1
      rw [cw_t (n := 4095) σ (by omega) q, bi_s, if_neg n10, ck_n _ p6 (by omega), nw_s, nI_clamp (by omega), qu_up, if_pos q]
      exact ⟨τ, e1, R2⟩
    · rw [cw_f (n := 4095) σ (by omega) q, bi_s, if_pos rfl, if_neg q]
      exact ⟨σ 1, by rw [up_id], R⟩
theorem m_load_l {s n : Nat} (hs : s < 4) (hn : n ≤ 40) : ∀ t j (σ : ts_S), WR (σ 6 1) → σ 6 9 s = nI n → j + t = (if nP (σ 6 1) < n then nP (σ 6 1) else n) → H_X5_load_22 (nI s) (nI j) σ = some (some (.inl (S_ld (σ 6 10) (40 * s) t j (σ 6 1)).1), mr σ (S_ld (σ 6 10) (40 * s) t j (σ 6 1)).2)
  | 0, j, σ, W, hz, e => by
    have hP := W.2.2.1
    rw [h_X5_load_22, ck_n _ hs (by omega), nI_clamp (by omega), hz, S_ld, mr_id]
    by_cases q : nP (σ 6 1) < n
    · rw [if_pos q] at e
      rw [if_neg (nI_ge (by omega) (by omega)), mp_f σ W (fun z => by have := (nI_ltI (by omega) (by omega)).mp z.2; omega), bi_s, if_pos rfl]
    · rw [if_neg q] at e
      rw [if_pos (nI_le (by omega) (by omega))]
  | t + 1, j, σ, W, hz, e => by
    have hP := W.2.2.1
    have hj : j < n ∧ j < nP (σ 6 1) := by
      by_cases q : nP (σ 6 1) < n
      · rw [if_pos q] at e; omega
      · rw [if_neg q] at e; omega
    have p6 := WR_p6 W hj.2
    have q0 : px j 0 < 111 := px_lt p6 (by omega)
    rw [h_X5_load_22, ck_n _ hs (by omega), nI_clamp (by omega), hz, if_neg (nI_ge (by omega) (by omega)), mp_t σ W ⟨nge (by omega), nI_lt hj.2 (by omega)⟩, bi_s, if_neg n10, pk_mul, nI_add, ck_n _ (by omega) (by omega), nI_clamp (by omega), S_ld]
    by_cases q : nI 0 ≤ σ 6 10 (40 * s + j) ∧ σ 6 10 (40 * s + j) < nI 4096
    · have W' := WR_ldh W hj.2 q
      have ih := m_load_l hs hn t (j + 1) (mr σ (upd (σ 6 1) (px j 0) (σ 6 10 (40 * s + j)))) W' hz (by rw [mr_rd, nP_upd (by unfold px; omega)]; omega)
      have r10 : (mr σ (upd (σ 6 1) (px j 0) (σ 6 10 (40 * s + j)))) 6 10 = σ 6 10 := rfl
      rw [mr_rd, r10, mr_mr] at ih
      rw [set_t σ q, bi_s, if_neg n10, m_personAt, bi_s, ck_n _ (by omega) (by omega), ck_n _ q0 (by omega), nw_s, nI_clamp (by omega), mr_up, nI_add, ih, if_pos q]
    · rw [set_f σ q, bi_s, if_pos rfl, if_neg q, mr_id]
theorem sim_load (a1 : Int32) : SIM F_X4_load F_X5_load [.inl a1] := by
  intro σ I
  have R := INV_R I
  have W := R.1
  have hP := W.2.2.1
  by_cases h1 : nI 0 ≤ a1 ∧ a1 < nI 4
  · obtain ⟨s, hs, rfl⟩ := in_of (by omega) h1
    obtain ⟨b1, b2, b3, n, hn, bn, bu⟩ := SH_s I hs
    by_cases hm : σ 6 8 s = nI 0
    · obtain ⟨A, e1, σ2, e2, I2⟩ := find5 I
      apply sim_mk (h3 := I2)
      · rw [e_X4_load, below_t σ h1, bi_s, if_neg n10, x_missing_t hs σ (by rw [b1]; exact hm), bi_s, if_neg n10, e1, bi_s]
      · rw [e_X5_load, m_lacks_m hs _ (va_up σ 0 A) hm, bi_s, if_neg c90, m_lacks_m hs _ (va_up σ 0 A) hm, bi_s, e2, bi_s]
    · have em : (if nI (nP (σ 6 1)) < nI n then nI (nP (σ 6 1)) else nI n) = nI (if nP (σ 6 1) < n then nP (σ 6 1) else n) := by
        by_cases q : nP (σ 6 1) < n
        · rw [if_pos q, if_pos (nI_lt q (by omega))]
        · rw [if_neg q, if_neg (nI_nlt (by omega) (by omega))]
      have lm : (if nP (σ 6 1) < n then nP (σ 6 1) else n) ≤ n ∧ (if nP (σ 6 1) < n then nP (σ 6 1) else n) ≤ nP (σ 6 1) := by
        by_cases q : nP (σ 6 1) < n
        · rw [if_pos q]; omega
        · rw [if_neg q]; omega
      obtain ⟨τ, e1, R1⟩ := c_load_l (u := σ 6 10) hs (show (if nP (σ 6 1) < n then nP (σ 6 1) else n) ≤ 40 by omega) (if nP (σ 6 1) < n then nP (σ 6 1) else n) 0 σ (σ 6 1) (by omega) R lm.2 (fun i hi => bu i (by omega))
      apply sim_mk (h3 := INV_q I R1)
      · rw [e_X4_load, below_t σ h1, bi_s, if_neg n10, x_missing_f hs σ (by rw [b1]; exact hm), bi_s, if_pos rfl, ck_n _ hs (by omega), nI_clamp (by omega), b2, bn, R.2.1.2.2.2.1, hP.1, min_e, bi_s, em]
        exact e1
      · rw [e_X5_load, m_lacks_1 hs (va_up σ 1 τ) hm, bi_s, if_pos rfl]
        exact m_load_l hs hn (if nP (σ 6 1) < n then nP (σ 6 1) else n) 0 (va_up σ 1 τ) W bn (Nat.zero_add _)
  · obtain ⟨A, e1, σ2, e2, I2⟩ := find0 I
    apply sim_mk (h3 := I2)
    · rw [e_X4_load, below_f σ h1, bi_s, if_pos rfl, e1, bi_s]
    · rw [e_X5_load, m_lacks_b _ _ h1, bi_s, if_neg c95, m_lacks_b _ _ h1, bi_s, e2, bi_s]
/-! judge -/
def K0 (ρ : Nat → Int32) : Nat := if nS ρ = 0 then 0 else nK ρ 0
def S_jg (ρ u : Nat → Int32) (b : Nat) : Nat → Nat → Int32
  | 0, _ => nI 0
  | t + 1, j => if j < K0 ρ ∧ ρ (sx 0 (4 + j)) = u (b + j) then S_jg ρ u b t (j + 1) else nI (1 + j)
theorem c_judge_l {ρ u : Nat → Int32} {s n : Nat} (hs : s < 4) (hn : n ≤ 40) (σ : ts_S) (R : RQ (σ 1) ρ) (hz : σ 5 2 s = nI n) (hu : ∀ i, i < n → σ 5 3 (40 * s + i) = u (40 * s + i)) : ∀ t j, j + t = n → H_X4_judge_33 (nI s) (nI j) σ = some (some (.inl (S_jg ρ u (40 * s) t j)), σ)
  | 0, j, e => by
    rw [h_X4_judge_33, ck_n _ hs (by omega), nI_clamp (by omega), hz, if_pos (nI_le (by omega) (by omega)), S_jg]
  | t + 1, j, e => by
    have W := R.1
    have hS := W.2.1
    rw [h_X4_judge_33, ck_n _ hs (by omega), nI_clamp (by omega), hz, if_neg (nI_ge (by omega) (by omega)), S_jg, nI_add, nI_add]
    by_cases q : j < K0 ρ
    · unfold K0 at q
      by_cases z : nS ρ = 0
      · rw [if_pos z] at q; omega
      · rw [if_neg z] at q
        obtain ⟨w, hw, ew⟩ := (WR_S W (i := 0) (by omega)).2.2.2.2 j q
        have q' : j < K0 ρ := by unfold K0; rw [if_neg z]; exact q
        rw [c_keptAt hq1 σ R (by omega) q, bi_s, ew, if_neg (nm (by omega)), x_numberAt hs (by omega), bi_s, hu j (by omega), c_judge_l hs hn σ R hz hu t (j + 1) (by omega)]
        by_cases y : nI w = u (40 * s + j)
        · rw [if_pos y, if_pos ⟨q', y⟩]
        · rw [if_neg y, if_neg (fun v => y v.2)]
    · have ka : F_X1_keptAt [.inr (.inr (.inl (1, 0))), .inl (nI 0), .inl (nI j)] σ = some (some (.inl (-1)), σ) := by
        rw [e_X1_keptAt hq1, R.2.1.2.1, hS.1]
        by_cases z : nS ρ = 0
        · rw [z, below_nf σ (by omega) (by omega), bi_s, if_pos rfl]
        · have ok := okS_k (WR_okS W (i := 0) (by omega))
          have q2 : ¬ j < nK ρ 0 := fun y => q (by unfold K0; rw [if_neg z]; exact y)
          rw [below_n σ (show 0 < nS ρ by omega) (by omega), bi_s, if_neg n10, ck_n _ (by omega) (by omega)]
          have z0 : (nI 0).toNatClampNeg = 0 := by decide
          rw [z0, (RQ_S R (i := 0) (by omega)).2.2.2.1, ok.1, below_nf σ q2 (by omega), bi_s, if_pos rfl]
      rw [ka, bi_s, if_pos rfl, if_neg (fun v => q v.1)]
theorem m_judge_l {s n : Nat} (hs : s < 4) (hn : n ≤ 40) (σ : ts_S) (W : WR (σ 6 1)) (hz : σ 6 9 s = nI n) : ∀ t j, j + t = n → H_X5_judge_42 (nI s) (nI (K0 (σ 6 1))) (nI j) σ = some (some (.inl (S_jg (σ 6 1) (σ 6 10) (40 * s) t j)), σ)
  | 0, j, e => by
    rw [h_X5_judge_42, ck_n _ hs (by omega), nI_clamp (by omega), hz, if_pos (nI_le (by omega) (by omega)), ck_n _ hs (by omega), if_pos (by rw [show j = n by omega]), S_jg]
  | t + 1, j, e => by
    have hS := W.2.1
    have nj : ¬ nI j = nI n := ki_eq (by omega) (by omega) (by omega)
    have k5 : K0 (σ 6 1) ≤ 5 := by
      unfold K0
      by_cases z : nS (σ 6 1) = 0
      · rw [if_pos z]; omega
      · rw [if_neg z]; exact (okS_k (WR_okS W (i := 0) (by omega))).2
    rw [h_X5_judge_42, ck_n _ hs (by omega), nI_clamp (by omega), hz, if_neg (nI_ge (by omega) (by omega)), S_jg, nI_add, nI_add]
    by_cases q : j < K0 (σ 6 1)
    · have ih := m_judge_l hs hn σ W hz t (j + 1) (by omega)
      rw [if_neg (nI_ge q (by omega)), pk_mul, nI_add, ck_n _ (by omega) (by omega), nI_add, m_sillIs σ (by omega) (by omega), bi_s, nI_clamp (by omega), ih, ck_n _ hs (by omega), hz]
      by_cases y : σ 6 10 (40 * s + j) = σ 6 1 (sx 0 (4 + j))
      · rw [if_pos y, if_pos ⟨q, y.symm⟩]
      · rw [if_neg y, if_neg nj, if_neg (fun v => y v.2.symm)]
    · rw [if_pos (nI_le (by omega) (by omega)), ck_n _ hs (by omega), if_neg nj, if_neg (fun v => q v.1)]
theorem sim_judge (a1 : Int32) : SIM F_X4_judge F_X5_judge [.inl a1] := by
  intro σ I
  have R := INV_R I
  have W := R.1
  have hS := W.2.1
  by_cases h1 : nI 0 ≤ a1 ∧ a1 < nI 4
  · obtain ⟨s, hs, rfl⟩ := in_of (by omega) h1
    obtain ⟨b1, b2, b3, n, hn, bn, bu⟩ := SH_s I hs
    by_cases hm : σ 6 8 s = nI 0
    · obtain ⟨A, e1, σ2, e2, I2⟩ := find5 I
      apply sim_mk (h3 := I2)
      · rw [e_X4_judge, below_t σ h1, bi_s, if_neg n10, x_missing_t hs σ (by rw [b1]; exact hm), bi_s, if_neg n10, e1, bi_s]
      · rw [e_X5_judge, m_lacks_m hs _ (va_up σ 0 A) hm, bi_s, if_neg c90, m_lacks_m hs _ (va_up σ 0 A) hm, bi_s, e2, bi_s]
    · have e1 := c_judge_l (ρ := σ 6 1) (u := σ 6 10) hs hn σ R (by rw [b2]; exact bn) bu n 0 (by omega)
      have e2 := m_judge_l hs hn σ W bn n 0 (by omega)
      apply sim_mk (h3 := I)
      · rw [e_X4_judge, below_t σ h1, bi_s, if_neg n10, x_missing_f hs σ (by rw [b1]; exact hm), bi_s, if_pos rfl]
        exact e1
      · rw [e_X5_judge, m_lacks_1 hs σ hm, bi_s, if_pos rfl, ck_n _ (by omega) (by omega), ← e2]
        unfold K0
        by_cases z : nS (σ 6 1) = 0
        · rw [hS.1, z, if_pos rfl, if_pos rfl]
        · rw [if_neg z, hS.1, if_neg (ki_eq (by omega) (by omega) z), m_sillIs σ (by omega) (by omega), bi_s, (okS_k (WR_okS W (i := 0) (by omega))).1]
  · obtain ⟨A, e1, σ2, e2, I2⟩ := find0 I
    apply sim_mk (h3 := I2)
    · rw [e_X4_judge, below_f σ h1, bi_s, if_pos rfl, e1, bi_s]
    · rw [e_X5_judge, m_lacks_b _ _ h1, bi_s, if_neg c95, m_lacks_b _ _ h1, bi_s, e2, bi_s]
/-! copy -/
theorem rng_n {s : Nat} (hs : s < 4) {a b : Int32} (σ : ts_S) (h : a < nI 0 ∨ b < nI 0) : F_X2_hasRange [.inr (.inr (.inl (5, 0))), .inl (nI s), .inl a, .inl b] σ = some (some (.inl (nI 0)), σ) := by
  rw [e_X2_hasRange]
  rcases h with h | h
  · rw [if_pos h]
  · rw [if_pos h]; split <;> rfl
theorem rng {s x n z : Nat} (hs : s < 4) (hx : x < 2 ^ 31) (hn : n < 2 ^ 31) (hz : z ≤ 40) (σ : ts_S) (h : σ 5 2 s = nI z) : F_X2_hasRange [.inr (.inr (.inl (5, 0))), .inl (nI s), .inl (nI x), .inl (nI n)] σ = some (some (.inl (if x + n ≤ z then nI 1 else nI 0)), σ) := by
  rw [e_X2_hasRange, if_neg (nn hx), if_neg (nn hn), ck_n _ hs (by omega), nI_clamp (by omega), h]
  by_cases q : z < n
  · rw [if_pos (nI_lt q hn), if_neg (by omega)]
  · rw [if_neg (nI_nlt (by omega) (by omega)), ck_n _ hs (by omega), pk_sub (by omega)]
    by_cases y : x + n ≤ z
    · rw [if_neg (nI_nlt (by omega) (by omega)), if_pos y]
    · rw [if_pos (nI_lt (by omega) hx), if_neg y]
theorem lgc {a b : Nat} (ha : a < 2 ^ 33) (hb : b < 2 ^ 33) : (nI 0 < lg_cmp (lN a) (lN b) ↔ b < a) ∧ (lg_cmp (lN a) (lN b) ≤ nI 0 ↔ a ≤ b) := by
  unfold lg_cmp
  by_cases h : b < a
  · rw [if_pos (show lN a > lN b from (pk_lLT (by omega) (by omega)).mpr h)]
    exact ⟨⟨fun _ => h, fun _ => by decide⟩, ⟨fun y => absurd y (by decide), fun y => by omega⟩⟩
  · rw [if_neg (show ¬ lN a > lN b from fun y => h ((pk_lLT (by omega) (by omega)).mp y))]
    by_cases e : a = b
    · rw [if_pos (by rw [e])]
      exact ⟨⟨fun y => absurd y (by decide), fun y => absurd y h⟩, ⟨fun _ => by omega, fun _ => by decide⟩⟩
    · rw [if_neg (fun y => e ((pk_lEQ (by omega) (by omega)).mp y))]
      exact ⟨⟨fun y => absurd y (by decide), fun y => absurd y h⟩, ⟨fun _ => by omega, fun _ => by decide⟩⟩
theorem m_cp1 {s1 x n : Nat} (v3 v4 : Int32) (h1 : s1 < 4) (hx : x + n ≤ 40) : ∀ t j (σ : ts_S), j + t = n → ∃ f : Nat → Int32, H_X5_copy_128 (nI s1) (nI x) v3 v4 (nI n) (nI j) σ = H_X5_copy_165 (nI s1) (nI x) v3 v4 (nI n) (nI 0) (va_up σ 6 (va_up (σ 6) 11 f)) ∧ ∀ i, i < n → (i < j → σ 6 11 i = σ 6 10 (40 * s1 + x + i)) → f i = σ 6 10 (40 * s1 + x + i)
  | 0, j, σ, e => ⟨σ 6 11, by rw [h_X5_copy_128, if_pos (nI_le (by omega) (by omega)), up_id, up_id], fun i hi h => h (by omega)⟩
  | t + 1, j, σ, e => by
    obtain ⟨f, e1, f1⟩ := m_cp1 v3 v4 h1 hx t (j + 1) (va_up σ 6 (qu (σ 6) 11 j (σ 6 10 (40 * s1 + x + j)))) (by omega)
    have r11 : (va_up σ 6 (qu (σ 6) 11 j (σ 6 10 (40 * s1 + x + j)))) 6 11 = upd (σ 6 11) j (σ 6 10 (40 * s1 + x + j)) := by rw [up_at]; unfold qu; rw [up_at]
    have r10 : (va_up σ 6 (qu (σ 6) 11 j (σ 6 10 (40 * s1 + x + j)))) 6 10 = σ 6 10 := rfl
    rw [r11, r10] at f1
    rw [up_uu, up_at] at e1
    unfold qu at e1
    rw [up_uu] at e1
    refine ⟨f, ?_, fun i hi h => f1 i hi (fun hj => ?_)⟩
    · rw [h_X5_copy_128, if_neg (nI_ge (by omega) (by omega)), pk_mul, nI_add, nI_add, ck_n _ (by omega) (by omega), ck_n _ (by omega) (by omega), nw_s, nI_clamp (by omega), nI_clamp (by omega), qu_up, nI_add]
      exact e1
    · by_cases q : i = j
      · subst q; exact upd_at _ _ _
      · rw [upd_ne _ _ q]; exact h (by omega)
theorem m_cp2 {s3 y n : Nat} (v1 v2 : Int32) (h3 : s3 < 4) (hy : y + n ≤ 40) : ∀ t j (σ : ts_S), j + t = n → ∃ f : Nat → Int32, H_X5_copy_165 v1 v2 (nI s3) (nI y) (nI n) (nI j) σ = some (some (.inl (nI n)), va_up σ 6 (va_up (σ 6) 10 f)) ∧ (∀ i, i < n → (i < j → σ 6 10 (40 * s3 + y + i) = σ 6 11 i) → f (40 * s3 + y + i) = σ 6 11 i) ∧ ∀ a, ¬ (40 * s3 + y ≤ a ∧ a < 40 * s3 + y + n) → f a = σ 6 10 a
  | 0, j, σ, e => ⟨σ 6 10, by rw [h_X5_copy_165, if_pos (nI_le (by omega) (by omega)), up_id, up_id], fun i hi h => h (by omega), fun a _ => rfl⟩
  | t + 1, j, σ, e => by
    obtain ⟨f, e1, f1, f2⟩ := m_cp2 v1 v2 h3 hy t (j + 1) (va_up σ 6 (qu (σ 6) 10 (40 * s3 + y + j) (σ 6 11 j))) (by omega)
    have r10 : (va_up σ 6 (qu (σ 6) 10 (40 * s3 + y + j) (σ 6 11 j))) 6 10 = upd (σ 6 10) (40 * s3 + y + j) (σ 6 11 j) := by rw [up_at]; unfold qu; rw [up_at]
    have r11 : (va_up σ 6 (qu (σ 6) 10 (40 * s3 + y + j) (σ 6 11 j))) 6 11 = σ 6 11 := rfl
    rw [r11, r10] at f1
    rw [r10] at f2
    rw [up_uu, up_at] at e1
    unfold qu at e1
    rw [up_uu] at e1
    refine ⟨f, ?_, fun i hi h => f1 i hi (fun hj => ?_), fun a ha => ?_⟩
    · rw [h_X5_copy_165, if_neg (nI_ge (by omega) (by omega)), pk_mul, nI_add, nI_add, ck_n _ (by omega) (by omega), ck_n _ (by omega) (by omega), nw_s, nI_clamp (by omega), nI_clamp (by omega), qu_up, nI_add]
      exact e1
    · by_cases q : i = j
      · subst q; exact upd_at _ _ _
      · rw [upd_ne _ _ (by omega)]; exact h (by omega)
    · rw [f2 a ha, upd_ne _ _ (by omega)]
theorem cpy_g {n0 n1 a b n : Nat} (h0 : a + n ≤ n0) (h1 : b + n ≤ n1) (q0 : n0 < 2 ^ 31) (q1 : n1 < 2 ^ 31) (σ : ts_S) (k c g d : Nat) (f : ts_S → Option ts_A) : ts_cpy σ n0 n1 k c (nI a) g d (nI b) (nI n) f = f (va_up σ g (va_up (σ g) d (va_cpy (σ k c) (σ g d) a b n))) := by
  unfold ts_cpy
  rw [nI_clamp (show a < 2 ^ 31 by omega), nI_clamp (show b < 2 ^ 31 by omega), nI_clamp (show n < 2 ^ 31 by omega), if_neg]
  intro q
  rw [← nI_0] at q
  rcases q with q | q | q | q | q
  · exact nn (by omega) q
  · exact nn (by omega) q
  · exact nn (by omega) q
  · omega
  · omega
theorem copy_core {σ : ts_S} (I : INV σ) {s r x y n z w : Nat} (hs : s < 4) (hr : r < 4) (hz : z ≤ 40) (hw : w ≤ 40) (bz : σ 6 9 s = nI z) (dw : σ 6 9 r = nI w) (hx : x + n ≤ z) (hy : y + n ≤ w) (f h : Nat → Int32) (hf : ∀ i, i < n → f (40 * r + y + i) = σ 6 10 (40 * s + x + i)) (hg : ∀ a, ¬ (40 * r + y ≤ a ∧ a < 40 * r + y + n) → f a = σ 6 10 a) : INV (va_up (va_up σ 5 (va_up (σ 5) 3 (va_cpy (σ 5 3) (σ 5 3) (s * 40 + x) (r * 40 + y) n))) 6 (va_up (va_up (σ 6) 11 h) 10 f)) := by
  obtain ⟨b1, b2, b3, z', hz', bz', bu⟩ := SH_s I hs
  obtain ⟨d1, d2, d3, w', hw', dw', du⟩ := SH_s I hr
  have ez : z' = z := (nI_eq (by omega) (by omega)).mp (bz'.symm.trans bz)
  have ew : w' = w := (nI_eq (by omega) (by omega)).mp (dw'.symm.trans dw)
  subst ez; subst ew
  obtain ⟨i1, i2, i3, i4, i5⟩ := I
  refine ⟨i1, i2, i3, i4, ?_⟩
  refine SH_one i5 hr (fun q hq hne => ⟨rfl, rfl, rfl, rfl, fun i hi => ⟨?_, hg _ (by omega)⟩⟩) ⟨d1, d2, d3, w', hw', dw', fun i hi => ?_⟩
  · show va_cpy (σ 5 3) (σ 5 3) (s * 40 + x) (r * 40 + y) n (40 * q + i) = _
    unfold va_cpy
    rw [if_neg (by omega)]
  · show va_cpy (σ 5 3) (σ 5 3) (s * 40 + x) (r * 40 + y) n (40 * r + i) = f (40 * r + i)
    unfold va_cpy
    by_cases q : y ≤ i ∧ i < y + n
    · rw [if_pos (by omega), show s * 40 + x + (40 * r + i - (r * 40 + y)) = 40 * s + (x + (i - y)) by omega, bu _ (by omega), show 40 * r + i = 40 * r + y + (i - y) by omega, hf _ (by omega)]
      congr 1
      omega
    · rw [if_neg (by omega), hg _ (by omega), du i hi]
theorem sim_copy (a1 a2 a3 a4 a5 : Int32) : SIM F_X4_copy F_X5_copy [.inl a1, .inl a2, .inl a3, .inl a4, .inl a5] := by
  intro σ I
  obtain ⟨A, e1, σ2, e2, I2⟩ := find0 I
  by_cases h1 : nI 0 ≤ a1 ∧ a1 < nI 4
  · by_cases h3 : nI 0 ≤ a3 ∧ a3 < nI 4
    · obtain ⟨s, hs, rfl⟩ := in_of (by omega) h1
      obtain ⟨r, hr, rfl⟩ := in_of (by omega) h3
      obtain ⟨b1, b2, b3, z, hz, bz, bu⟩ := SH_s I hs
      obtain ⟨d1, d2, d3, w, hw, dw, du⟩ := SH_s I hr
      have ks := nI_clamp (show s < 2 ^ 31 by omega)
      have kr := nI_clamp (show r < 2 ^ 31 by omega)
      by_cases m1 : σ 6 8 s = nI 0
      · obtain ⟨A, e1, σ2, e2, I2⟩ := find5 I
        apply sim_mk (h3 := I2)
        · rw [e_X4_copy, below_t σ h1, bi_s, if_neg n10, below_t σ h3, bi_s, if_neg n10, x_missing_t hs σ (by rw [b1]; exact m1), bi_s, if_neg n10, e1, bi_s]
        · rw [e_X5_copy, sheetn_t _ h1, bi_s, if_neg n10, sheetn_t _ h3, bi_s, if_neg n10, ck_n _ hs (by omega), ks, if_pos (show (va_up σ 0 A) 6 8 s = nI 0 from m1), e2, bi_s]
      · by_cases m3 : σ 6 8 r = nI 0
        · obtain ⟨A, e1, σ2, e2, I2⟩ := find5 I
          apply sim_mk (h3 := I2)
          · rw [e_X4_copy, below_t σ h1, bi_s, if_neg n10, below_t σ h3, bi_s, if_neg n10, x_missing_f hs σ (by rw [b1]; exact m1), bi_s, if_pos rfl, x_missing_t hr σ (by rw [d1]; exact m3), bi_s, if_neg n10, e1, bi_s]
          · rw [e_X5_copy, sheetn_t _ h1, bi_s, if_neg n10, sheetn_t _ h3, bi_s, if_neg n10, ck_n _ hs (by omega), ks, if_neg (show ¬ (va_up σ 0 A) 6 8 s = nI 0 from m1), ck_n _ hr (by omega), kr, if_pos (show (va_up σ 0 A) 6 8 r = nI 0 from m3), e2, bi_s]
        · by_cases k : σ 6 8 s = σ 6 8 r
          · have C : ∀ o, (ts_bi (F_X2_hasRange [.inr (.inr (.inl (5, 0))), .inl (nI s), .inl a2, .inl a5] σ) fun x14 σ13 => if x14 = nI 0 then ts_bi (F_X4_tell [.inr (.inr (.inl (0, 0))), .inl (nI 0)] σ13) fun x16 σ15 => some (some (.inl x16), σ15) else ts_bi (F_X2_hasRange [.inr (.inr (.inl (5, 0))), .inl (nI r), .inl a4, .inl a5] σ13) fun x18 σ17 => if x18 = nI 0 then ts_bi (F_X4_tell [.inr (.inr (.inl (0, 0))), .inl (nI 0)] σ17) fun x20 σ19 => some (some (.inl x20), σ19) else ts_bv (F_X2_move [.inr (.inr (.inl (5, 0))), .inl (nI s), .inl a2, .inl (nI r), .inl a4, .inl a5] σ17) fun σ21 => some (some (.inl a5), σ21)) = o → F_X4_copy [.inr (.inr (.inl (0, 0))), .inl (nI s), .inl a2, .inl (nI r), .inl a4, .inl a5] σ = o := by
              intro o ho
              rw [e_X4_copy, below_t σ h1, bi_s, if_neg n10, below_t σ h3, bi_s, if_neg n10, x_missing_f hs σ (by rw [b1]; exact m1), bi_s, if_pos rfl, x_missing_f hr σ (by rw [d1]; exact m3), bi_s, if_pos rfl, ck_n _ hs (by omega), ck_n _ hr (by omega), ks, kr, if_pos (by rw [b1, d1]; exact k)]
              exact ho
            have D : ∀ ζ : ts_S, ζ 6 = σ 6 → ∀ o, (if a2 < nI 0 then (ts_bi (F_X5_finding [.inr (.inr (.inl (6, 0))), .inl (Int32.ofNat 4293967295)] ζ) fun x14 σ13 => some (some (.inl x14), σ13)) else if a4 < nI 0 then (ts_bi (F_X5_finding [.inr (.inr (.inl (6, 0))), .inl (Int32.ofNat 4293967295)] ζ) fun x16 σ15 => some (some (.inl x16), σ15)) else if a5 < nI 0 then (ts_bi (F_X5_finding [.inr (.inr (.inl (6, 0))), .inl (Int32.ofNat 4293967295)] ζ) fun x18 σ17 => some (some (.inl x18), σ17)) else if nI 0 < (lg_cmp ((Int32.toInt64 a2) + (Int32.toInt64 a5)) (Int32.toInt64 (nI z))) then (ts_bi (F_X5_finding [.inr (.inr (.inl (6, 0))), .inl (Int32.ofNat 4293967295)] ζ) fun x20 σ19 => some (some (.inl x20), σ19)) else if (lg_cmp ((Int32.toInt64 a4) + (Int32.toInt64 a5)) (Int32.toInt64 (nI w))) ≤ nI 0 then (H_X5_copy_128 (nI s) a2 (nI r) a4 a5 (nI 0) ζ) else ts_bi (F_X5_finding [.inr (.inr (.inl (6, 0))), .inl (Int32.ofNat 4293967295)] ζ) fun x22 σ21 => some (some (.inl x22), σ21)) = o → F_X5_copy [.inr (.inr (.inl (6, 0))), .inl (nI s), .inl a2, .inl (nI r), .inl a4, .inl a5] ζ = o := by
              intro ζ hζ o ho
              rw [e_X5_copy, sheetn_t _ h1, bi_s, if_neg n10, sheetn_t _ h3, bi_s, if_neg n10, hζ]
              simp only [ck_n _ hs (show 4 < 2 ^ 31 by omega), ck_n _ hr (show 4 < 2 ^ 31 by omega), ks, kr, bz, dw]
              rw [if_neg m1, if_neg m3, if_pos k]
              exact ho
            by_cases v5 : a5 < nI 0
            · apply sim_mk (h3 := I2)
              · refine C _ ?_
                rw [rng_n hs σ (Or.inr v5), bi_s, if_pos rfl, e1, bi_s]
              · refine D (va_up σ 0 A) rfl _ ?_
                rw [if_pos v5, ite_self, ite_self, e2, bi_s]
            · by_cases v2 : a2 < nI 0
              · apply sim_mk (h3 := I2)
                · refine C _ ?_
                  rw [rng_n hs σ (Or.inl v2), bi_s, if_pos rfl, e1, bi_s]
                · refine D (va_up σ 0 A) rfl _ ?_
                  rw [if_pos v2, e2, bi_s]
              · obtain ⟨n, hn, rfl⟩ := nI_of (x := a5) (by rw [← nI_0]; exact v5)
                obtain ⟨x, hx, rfl⟩ := nI_of (x := a2) (by rw [← nI_0]; exact v2)
                by_cases v4 : a4 < nI 0
                · apply sim_mk (h3 := I2)
                  · refine C _ ?_
                    rw [rng hs hx hn hz σ (by rw [b2]; exact bz), bi_s]
                    by_cases q : x + n ≤ z
                    · rw [if_pos q, if_neg n10, rng_n hr σ (Or.inl v4), bi_s, if_pos rfl, e1, bi_s]
                    · rw [if_neg q, if_pos rfl, e1, bi_s]
                  · refine D (va_up σ 0 A) rfl _ ?_
                    rw [if_neg v2, if_pos v4, e2, bi_s]
                · obtain ⟨y, hy, rfl⟩ := nI_of (x := a4) (by rw [← nI_0]; exact v4)
                  have L1 := lgc (a := x + n) (b := z) (by omega) (by omega)
                  have L2 := lgc (a := y + n) (b := w) (by omega) (by omega)
                  by_cases q : x + n ≤ z
                  · by_cases p : y + n ≤ w
                    · have E := cpy_g (n0 := 160) (n1 := 160) (a := s * 40 + x) (b := r * 40 + y) (n := n) (by omega) (by omega) (by omega) (by omega) σ 5 3 5 3 (fun σ1 => some (none, σ1))
                      obtain ⟨h, g1, g2⟩ := m_cp1 (nI r) (nI y) hs (show x + n ≤ 40 by omega) n 0 (va_up σ 5 (va_up (σ 5) 3 (va_cpy (σ 5 3) (σ 5 3) (s * 40 + x) (r * 40 + y) n))) (by omega)
                      obtain ⟨f, g3, g4, g5⟩ := m_cp2 (nI s) (nI x) hr (show y + n ≤ 40 by omega) n 0 (va_up (va_up σ 5 (va_up (σ 5) 3 (va_cpy (σ 5 3) (σ 5 3) (s * 40 + x) (r * 40 + y) n))) 6 (va_up (σ 6) 11 h)) (by omega)
                      rw [up_uu, up_at] at g3
                      have J := copy_core I hs hr hz hw bz dw q p f h (fun i hi => (g4 i hi (fun j => by omega)).trans (g2 i hi (fun j => by omega))) g5
                      apply sim_mk (h3 := J)
                      · refine C _ ?_
                        rw [rng hs hx hn hz σ (by rw [b2]; exact bz), bi_s, if_pos q, if_neg n10, rng hr hy hn hw σ (by rw [d2]; exact dw), bi_s, if_pos p, if_neg n10, e_X2_move, pk_mul, pk_mul, nI_add, nI_add, E, bv_s]
                      · refine D (va_up σ 5 (va_up (σ 5) 3 (va_cpy (σ 5 3) (σ 5 3) (s * 40 + x) (r * 40 + y) n))) rfl _ ?_
                        rw [if_neg v2, if_neg v4, if_neg v5, nI_l hx, nI_l hy, nI_l hn, nI_l (show z < 2 ^ 31 by omega), nI_l (show w < 2 ^ 31 by omega), lN_add, lN_add, if_neg (fun t => by have := L1.1.mp t; omega), if_pos (L2.2.mpr p)]
                        exact g1.trans g3
                    · apply sim_mk (h3 := I2)
                      · refine C _ ?_
                        rw [rng hs hx hn hz σ (by rw [b2]; exact bz), bi_s, if_pos q, if_neg n10, rng hr hy hn hw σ (by rw [d2]; exact dw), bi_s, if_neg p, if_pos rfl, e1, bi_s]
                      · refine D (va_up σ 0 A) rfl _ ?_
                        rw [if_neg v2, if_neg v4, if_neg v5, nI_l hx, nI_l hy, nI_l hn, nI_l (show z < 2 ^ 31 by omega), nI_l (show w < 2 ^ 31 by omega), lN_add, lN_add, if_neg (fun t => by have := L1.1.mp t; omega), if_neg (fun t => p (L2.2.mp t)), e2, bi_s]
                  · apply sim_mk (h3 := I2)
                    · refine C _ ?_
                      rw [rng hs hx hn hz σ (by rw [b2]; exact bz), bi_s, if_neg q, if_pos rfl, e1, bi_s]
                    · refine D (va_up σ 0 A) rfl _ ?_
                      rw [if_neg v2, if_neg v4, if_neg v5, nI_l hx, nI_l hn, nI_l (show z < 2 ^ 31 by omega), lN_add, if_pos (L1.1.mpr (by omega)), e2, bi_s]
          · obtain ⟨A, e1, σ2, e2, I2⟩ := find2 I
            apply sim_mk (h3 := I2)
            · rw [e_X4_copy, below_t σ h1, bi_s, if_neg n10, below_t σ h3, bi_s, if_neg n10, x_missing_f hs σ (by rw [b1]; exact m1), bi_s, if_pos rfl, x_missing_f hr σ (by rw [d1]; exact m3), bi_s, if_pos rfl, ck_n _ hs (by omega), ck_n _ hr (by omega), ks, kr, if_neg (by rw [b1, d1]; exact k), e1, bi_s]
            · rw [e_X5_copy, sheetn_t _ h1, bi_s, if_neg n10, sheetn_t _ h3, bi_s, if_neg n10]
              simp only [ck_n _ hs (show 4 < 2 ^ 31 by omega), ck_n _ hr (show 4 < 2 ^ 31 by omega), ks, kr]
              rw [if_neg (show ¬ (va_up σ 0 A) 6 8 s = nI 0 from m1), if_neg (show ¬ (va_up σ 0 A) 6 8 r = nI 0 from m3), if_neg (show ¬ (va_up σ 0 A) 6 8 s = (va_up σ 0 A) 6 8 r from k), e2, bi_s]
    · apply sim_mk (h3 := I2)
      · rw [e_X4_copy, below_t σ h1, bi_s, if_neg n10, below_f σ h3, bi_s, if_pos rfl, e1, bi_s]
      · rw [e_X5_copy, sheetn_t _ h1, bi_s, if_neg n10, sheetn_f _ h3, bi_s, if_pos rfl, e2, bi_s]
  · apply sim_mk (h3 := I2)
    · rw [e_X4_copy, below_f σ h1, bi_s, if_pos rfl, e1, bi_s]
    · rw [e_X5_copy, sheetn_f _ h1, bi_s, if_pos rfl, e2, bi_s]
