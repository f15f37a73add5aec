/-! a sill of the text, read by both -/
theorem ZT_u {z h : Nat → Int32} {k b j : Nat} (Z : ZT z h k b) (hj : ¬ (6 ≤ j ∧ j ≤ 10)) (x : Int32) : ZT (upd z j x) h k b := by
  obtain ⟨h1, h2, h3, h4, h5⟩ := Z
  exact ⟨by rw [upd_ne _ _ (by omega)]; exact h1, by rw [upd_ne _ _ (by omega)]; exact h2, by rw [upd_ne _ _ (by omega)]; exact h3, by rw [upd_ne _ _ (by omega)]; exact h4, by rw [upd_ne _ _ (by omega)]; exact h5⟩
theorem cs_q (σ : ts_S) (y : Nat → Int32) (τ : Nat → Nat → Int32) (c j : Nat) (x : Int32) : ts_up (cs σ y τ) 2 c j x = cs σ y (qu τ c j x) := by
  rw [qu_up, cs_g, cs_2]
theorem j_kept {σ : ts_S} {k i a : Nat} {ρ1 : Nat → Int32} (hB : TB (σ 4 1) k) (ha : a + 8 ≤ 960) (v1 : Int32) (h3 : ρ1 (sx i 3) = nI 0) (hi : i < nS ρ1) : ∀ t m b (y : Nat → Int32) (τ : Nat → Nat → Int32) (z f : Nat → Int32), m + t = 5 → 1 ≤ m → b ≤ k → YT y (σ 4 1) k b → ZT z (σ 4 1) k b → z 11 = nI 0 → RQ τ (LY f a i m ρ1) → ∃ y' τ' z' f', H_X3_readKept_2 (nI i) (nI m) (cs σ y τ) = some (some (.inl (nI 1)), cs σ y' τ') ∧ (∀ σ' : ts_S, (∀ j, j < k → σ' 6 5 j = σ 4 1 j) → H_X5_readSill_61 v1 (nI a) (nI m) (mz σ' z f) = RSm (nI a) (mz σ' z' f')) ∧ (∀ j, j < a + 2 → f' j = f j) ∧ (∀ j, ¬ (7 ≤ j ∧ j ≤ 11) → z' j = z j) ∧ ((∃ b' m', b ≤ b' ∧ b' ≤ k ∧ YT y' (σ 4 1) k b' ∧ ZT z' (σ 4 1) k b' ∧ z' 11 = nI 0 ∧ m' ≤ 5 ∧ f' (a + 2) = nI m' ∧ RQ τ' (LY f' a i m' ρ1)) ∨ (∃ b', b' ≤ k ∧ YT y' (σ 4 1) k b' ∧ T_t (σ 4 1) k b' = 2 ∧ z' 7 = nI b' ∧ z' 11 = nI 1))
  | 0, m, b, y, τ, z, f, e, h1, hb, Y, Z, e11, R => by
    have hS := (LY_n f a i m ρ1).1
    have i8 := WR_i8 R.1 (i := i) (by omega)
    have t5 : τ 5 i = nI m := ((RQ_S R (i := i) (by omega)).2.2.2.1).trans (LY_3 f a i m ρ1 h3)
    refine ⟨y, τ, z, upd f (a + 2) (nI m), ?_, fun σ' hm => ?_, fun j hj => upd_ne _ _ (by omega), fun j _ => rfl, Or.inl ⟨b, m, by omega, hb, Y, Z, e11, by omega, upd_at _ _ _, ?_⟩⟩
    · rw [h_X3_readKept_2, if_pos (nI_le (by omega) (by omega)), ck_n _ i8 (by omega), nI_clamp (by omega), cs_2, t5, if_neg (nI_ge (by omega) (by omega))]
    · rw [rs_h, mz_r, e11, if_pos rfl, mz_r, if_pos (nI_le (by omega) (by omega)), rx_e ha]
      split <;> rfl
    · rw [LY_c m ρ1 (fun j hj => upd_ne _ _ (by omega))]; exact R
  | t + 1, m, b, y, τ, z, f, e, h1, hb, Y, Z, e11, R => by
    have hS := (LY_n f a i m ρ1).1
    have i8 := WR_i8 R.1 (i := i) (by omega)
    have t3 := LY_3 f a i m ρ1 h3
    have t5 : τ 5 i = nI m := ((RQ_S R (i := i) (by omega)).2.2.2.1).trans t3
    have nk : nK (LY f a i m ρ1) i = m := by unfold nK; rw [t3, nI_clamp (by omega)]
    by_cases N : T_t (σ 4 1) k b = 2 ∧ nI (T_v (σ 4 1) k b) ≤ nI 11
    · have v11 : T_v (σ 4 1) k b < 12 := by
        have := (nI_leI (by have := T_v_b (σ 4 1) k b; omega) (by omega)).mp N.2
        omega
      have K := c_keep hq2 (nI (T_v (σ 4 1) k b)) (cs σ y τ) (ρ := LY f a i m ρ1) R (i := i) (by omega) (by omega)
      have R1 := RQ_lay R (i := i) (w := T_v (σ 4 1) k b) (by omega) (by omega) v11
      rw [cs_g, cs_2] at K
      obtain ⟨y1, t1, Y1⟩ := c_tok (qu (qu τ 6 (5 * i + nK (LY f a i m ρ1) i) (nI (T_v (σ 4 1) k b))) 5 i (τ 5 i + nI 1)) hB hb Y
      have nb := T_n_b (σ 4 1) hb
      have el : LY (upd f (a + 3 + m) (nI (T_v (σ 4 1) k b))) a i (m + 1) ρ1 = S_lay (LY f a i m ρ1) i (nI (T_v (σ 4 1) k b)) := by
        rw [LY, LY_c m ρ1 (fun j hj => upd_ne _ _ (by omega)), upd_at]
      obtain ⟨y', τ', z', f', g1, g2, g3, g4, g5⟩ := j_kept hB ha v1 h3 hi t (m + 1) (T_n (σ 4 1) k b) y1 _ (zt z (σ 4 1) k (T_n (σ 4 1) k b)) (upd f (a + 3 + m) (nI (T_v (σ 4 1) k b))) (by omega) (by omega) nb.2.1 Y1 (zt_Z Z.1) (by rw [zt_o _ _ _ _ (by omega)]; exact e11) (by rw [el]; exact R1)
      refine ⟨y', τ', z', f', ?_, fun σ' hm => ?_, fun j hj => by rw [g3 j hj, upd_ne _ _ (by omega)], fun j hj => by rw [g4 j hj, zt_o _ _ _ _ (by omega)], ?_⟩
      · rw [h_X3_readKept_2, if_neg (nI_ge (by omega) (by omega)), c_num_t Y N, bi_s, if_neg n10, cs_r, Y.2.2.2.2 N.1, K, bi_s, t1, bv_s, nI_add, g1]
      · rw [rs_h, mz_r, e11, if_pos rfl, mz_r, if_pos ((sort2 Z).mpr N.1), if_neg (nI_ge (by omega) (by omega)), m_num_t hB hm hb Z e11 N, bi_s, nI_add, nI_add, ck_n _ (by omega) (by omega), nw_s, nI_clamp (by omega), mz_w, nI_add, g2 σ' hm]
      · rcases g5 with ⟨b', m', q1, q2⟩ | q
        · exact Or.inl ⟨b', m', by omega, q2⟩
        · exact Or.inr q
    · have C : H_X3_readKept_2 (nI i) (nI m) (cs σ y τ) = some (some (.inl (nI 1)), cs σ y τ) := by
        rw [h_X3_readKept_2, if_neg (nI_ge (by omega) (by omega)), c_num_f Y N, bi_s, if_pos rfl, ck_n _ i8 (by omega), nI_clamp (by omega), cs_2, t5, if_neg (nI_ge (by omega) (by omega))]
      by_cases q : T_t (σ 4 1) k b = 2
      · refine ⟨y, τ, upd z 11 (nI 1), upd (upd f (a + 3 + m) (z 10)) (a + 2) (nI (m + 1)), C, fun σ' hm => ?_, fun j hj => by rw [upd_ne _ _ (by omega), upd_ne _ _ (by omega)], fun j hj => by rw [upd_ne _ _ (by omega)], Or.inr ⟨b, hb, Y, q, by rw [upd_ne _ _ (by omega)]; exact Z.2.2.1, upd_at _ _ _⟩⟩
        rw [rs_h, mz_r, e11, if_pos rfl, mz_r, if_pos ((sort2 Z).mpr q), if_neg (nI_ge (by omega) (by omega)), m_num_f Z e11 N, bi_s, nI_add, nI_add, ck_n _ (by omega) (by omega), nw_s, nI_clamp (by omega), mz_w, nI_add, rs_h, mz_r, upd_at, if_neg n10, rx_e ha]
      · refine ⟨y, τ, z, upd f (a + 2) (nI m), C, fun σ' hm => ?_, fun j hj => upd_ne _ _ (by omega), fun j _ => rfl, Or.inl ⟨b, m, by omega, hb, Y, Z, e11, by omega, upd_at _ _ _, ?_⟩⟩
        · rw [rs_h, mz_r, e11, if_pos rfl, mz_r, if_neg (fun p => q ((sort2 Z).mp p)), rx_e ha]
        · rw [LY_c m ρ1 (fun j hj => upd_ne _ _ (by omega))]; exact R
theorem j_tail {σ : ts_S} {k n kd b m : Nat} {y : Nat → Int32} {τ : Nat → Nat → Int32} {z f ρ : Nat → Int32} (hB : TB (σ 4 1) k) (hn : n < 120) (hkd : kd < 7) (hm5 : m ≤ 5) (W : WR ρ) (h8 : nS ρ < 8) (hb : b ≤ k) (Y : YT y (σ 4 1) k b) (Z : ZT z (σ 4 1) k b) (e11 : z 11 = nI 0) (e15 : z 15 = nI (nS ρ)) (f0 : f (8 * n) = nI kd) (f2 : f (8 * n + 2) = nI m) (R : RQ τ (LY f (8 * n) (nS ρ) m (S_new ρ (nI kd)))) : ∃ y' τ' z' f', (ts_bi (F_X3_isWord [.inr (.inr (.inl (4, 0))), .inr (.inr (.inr 10))] (cs σ y τ)) fun x7 σ6 => if x7 = nI 0 then some (some (.inl (nI 1)), σ6) else ts_ck (nI (nS ρ)) 8 <| ts_nw (ts_up σ6 2 4 ((nI (nS ρ)).toNatClampNeg) (nI 1)) fun σ8 => ts_bv (F_X3_readToken [.inr (.inr (.inl (4, 0)))] σ8) fun σ9 => some (some (.inl (nI 1)), σ9)) = some (some (.inl (nI 1)), cs σ y' τ') ∧ (∀ σ' : ts_S, (∀ j, j < k → σ' 6 5 j = σ 4 1 j) → RSm (nI (8 * n)) (mz σ' z f) = some (none, mz σ' z' f')) ∧ (∀ i, ¬ (7 ≤ i ∧ i ≤ 10) → ¬ i = 15 → z' i = z i) ∧ (∀ i, ¬ i = 8 * n + 1 → f' i = f i) ∧ ∃ b' ρ', b ≤ b' ∧ b' ≤ k ∧ YT y' (σ 4 1) k b' ∧ ZT z' (σ 4 1) k b' ∧ z' 15 = nI (nS ρ') ∧ nP ρ' = nP ρ ∧ RQ τ' ρ' ∧ IV f' (8 * n) ρ ρ' := by
  have hS := (LY_n f (8 * n) (nS ρ) m (S_new ρ (nI kd)))
  have hc := S_new_c W h8 (nI kd)
  have hi : nS ρ < nS (LY f (8 * n) (nS ρ) m (S_new ρ (nI kd))) := by rw [hS.1, hc.1]; omega
  have eL : ∀ x, LY (upd f (8 * n + 1) x) (8 * n) (nS ρ) m (S_new ρ (nI kd)) = LY f (8 * n) (nS ρ) m (S_new ρ (nI kd)) := fun x => LY_c m _ (fun j hj => upd_ne _ _ (by omega))
  by_cases w : WD (σ 4 1) k b 10
  · have nb := T_n_b (σ 4 1) hb
    have R1 := RQ_sx R hi (f := 2) (by omega) (v := nI 1) (WR_sf R.1 hi (f := 2) (by omega) (fun h => by omega) (fun h => by omega) (fun _ => ⟨1, by omega, rfl⟩))
    obtain ⟨y1, t1, Y1⟩ := c_tok (qu τ 4 (nS ρ) (nI 1)) hB hb Y
    refine ⟨y1, qu τ 4 (nS ρ) (nI 1), upd (zt z (σ 4 1) k (T_n (σ 4 1) k b)) 15 (zt z (σ 4 1) k (T_n (σ 4 1) k b) 15 + nI 1), upd f (8 * n + 1) (nI 1), ?_, fun σ' hm => ?_, fun i h1 h2 => by rw [upd_ne _ _ h2, zt_o _ _ _ _ h1], fun i h1 => upd_ne _ _ h1, T_n (σ 4 1) k b, upd (LY f (8 * n) (nS ρ) m (S_new ρ (nI kd))) (sx (nS ρ) 2) (nI 1), nb.1, nb.2.1, Y1, ZT_u (zt_Z Z.1) (by omega) _, ?_, ?_, R1, ?_⟩
    · rw [c_isWord_t (by omega) hB.1 hb Y w, bi_s, if_neg n10, ck_n _ h8 (by omega), nw_s, nI_clamp (by omega), cs_q, t1, bv_s]
    · exact rm_1 (by omega) (m_tw_t (by omega) hB hm hb Z e11 w)
    · rw [upd_at, zt_o _ _ _ _ (by omega), e15, nI_add, nS_upd (by unfold sx; omega), hS.1, hc.1]
    · rw [nP_upd (by unfold sx; omega), hS.2, hc.2]
    · have T := told_sill (f := upd f (8 * n + 1) (nI 1)) (a := 8 * n) (x := nI 1) W h8 hkd hm5 (by omega) (by rw [upd_ne _ _ (by omega)]; exact f0) (upd_at _ _ _) (by rw [upd_ne _ _ (by omega)]; exact f2)
      rw [eL] at T
      exact T
  · refine ⟨y, τ, upd z 15 (z 15 + nI 1), upd f (8 * n + 1) (nI 0), ?_, fun σ' hm => ?_, fun i h1 h2 => by rw [upd_ne _ _ h2], fun i h1 => upd_ne _ _ h1, b, LY f (8 * n) (nS ρ) m (S_new ρ (nI kd)), by omega, hb, Y, ZT_u Z (by omega) _, ?_, by rw [hS.2, hc.2], R, ?_⟩
    · rw [c_isWord_f (by omega) hB.1 hb Y w, bi_s, if_pos rfl]
    · exact rm_0 (by omega) (m_tw_f (by omega) hB hm hb Z e11 w)
    · rw [upd_at, e15, nI_add, hS.1, hc.1]
    · have T := told_sill (f := upd f (8 * n + 1) (nI 0)) (a := 8 * n) (x := nI 0) W h8 hkd hm5 (by omega) (by rw [upd_ne _ _ (by omega)]; exact f0) (upd_at _ _ _) (by rw [upd_ne _ _ (by omega)]; exact f2)
      rw [eL, ← LY_u, z_same (z := S_new ρ (nI kd)) (j := sx (nS ρ) 2) (x := nI 0) (by rw [S_new_n ρ _ (by omega), if_neg (by omega)])] at T
      exact T
theorem j_sill {σ : ts_S} {k n kd b : Nat} {y : Nat → Int32} {τ : Nat → Nat → Int32} {z f ρ : Nat → Int32} (hB : TB (σ 4 1) k) (hn : n < 120) (hkd : kd < 7) (hb : b ≤ k) (Y : YT y (σ 4 1) k b) (Z : ZT z (σ 4 1) k b) (e11 : z 11 = nI 0) (e15 : z 15 = nI (nS ρ)) (e16 : z 16 = nI (nP ρ)) (R : RQ τ ρ) : ∃ x y' τ' z' f', F_X3_readSill [.inr (.inr (.inl (4, 0))), .inr (.inr (.inl (2, 0))), .inl (nI kd)] (cs σ y τ) = some (some (.inl (nI x)), cs σ y' τ') ∧ (∀ σ' : ts_S, (∀ j, j < k → σ' 6 5 j = σ 4 1 j) → F_X5_readSill [.inr (.inr (.inl (6, 0))), .inl (nI kd), .inl (nI (8 * n))] (mz σ' z f) = some (none, mz σ' z' f')) ∧ OUT (σ 4 1) k b n z f ρ x y' τ' z' f' := by
  have W := R.1
  have hS8 := W.2.1.2
  by_cases h8 : nS ρ < 8
  · obtain ⟨τ1, a1, R1⟩ := c_addSill hq2 hkd (cs σ y τ) R h8
    rw [cs_g] at a1
    have hc := S_new_c W h8 (nI kd)
    have nb := T_n_b (σ 4 1) hb
    obtain ⟨y1, t1, Y1⟩ := c_tok τ1 hB hb Y
    generalize hb1 : T_n (σ 4 1) k b = b1 at nb Y1
    have Z1 : ZT (zt z (σ 4 1) k b1) (σ 4 1) k b1 := zt_Z Z.1
    have z11 : zt z (σ 4 1) k b1 11 = nI 0 := by rw [zt_o _ _ _ _ (by omega)]; exact e11
    have z15 : zt z (σ 4 1) k b1 15 = nI (nS ρ) := by rw [zt_o _ _ _ _ (by omega)]; exact e15
    have mf : ∀ σ' : ts_S, (∀ j, j < k → σ' 6 5 j = σ 4 1 j) → F_X5_readSill [.inr (.inr (.inl (6, 0))), .inl (nI kd), .inl (nI (8 * n))] (mz σ' z f) = ts_bi (F_X5_takesWord [.inr (.inr (.inl (6, 0))), .inr (.inr (.inr 9))] (mz σ' (zt z (σ 4 1) k b1) (upd (upd f (8 * n) (nI kd)) (8 * n + 2) (nI 0)))) fun x5 σ4 => if x5 = nI 0 then RSm (nI (8 * n)) σ4 else ts_bi (F_X5_number [.inr (.inr (.inl (6, 0))), .inl (nI 0), .inl (nI 11)] σ4) fun x13 σ12 => ts_ck (nI (8 * n) + (nI 3)) 960 <| ts_nw (ts_up σ12 6 7 ((nI (8 * n) + (nI 3)).toNatClampNeg) x13) fun σ14 => H_X5_readSill_61 (nI kd) (nI (8 * n)) (nI 1) σ14 := by
      intro σ' hm
      rw [rs_e, mz_r, e15, if_neg (nI_ge (by omega) (by omega)), m_must_t hB hm hb Z e11, bv_s, hb1]
      unfold RSb
      rw [ck_n _ (by omega) (by omega), nw_s, nI_clamp (by omega), mz_w, nI_add, ck_n _ (by omega) (by omega), nw_s, nI_clamp (by omega), mz_w]
    have g0 : upd (upd f (8 * n) (nI kd)) (8 * n + 2) (nI 0) (8 * n) = nI kd := by rw [upd_ne _ _ (by omega), upd_at]
    have g2 : upd (upd f (8 * n) (nI kd)) (8 * n + 2) (nI 0) (8 * n + 2) = nI 0 := upd_at _ _ _
    have gl : ∀ i, i < 8 * n → upd (upd f (8 * n) (nI kd)) (8 * n + 2) (nI 0) i = f i := fun i h => by rw [upd_ne _ _ (by omega), upd_ne _ _ (by omega)]
    have n3 : S_new ρ (nI kd) (sx (nS ρ) 3) = nI 0 := by rw [S_new_n ρ _ (by omega), if_neg (by omega)]
    generalize hf1 : upd (upd f (8 * n) (nI kd)) (8 * n + 2) (nI 0) = f1 at mf g0 g2 gl
    have cf : ∀ o, (ts_bi (F_X3_isWord [.inr (.inr (.inl (4, 0))), .inr (.inr (.inr 9))] (cs σ y1 τ1)) fun x5 σ4 => if x5 = nI 0 then (ts_bi (F_X3_isWord [.inr (.inr (.inl (4, 0))), .inr (.inr (.inr 10))] σ4) fun x7 σ6 => if x7 = nI 0 then some (some (.inl (nI 1)), σ6) else ts_ck (nI (nS ρ)) 8 <| ts_nw (ts_up σ6 2 4 ((nI (nS ρ)).toNatClampNeg) (nI 1)) fun σ8 => ts_bv (F_X3_readToken [.inr (.inr (.inl (4, 0)))] σ8) fun σ9 => some (some (.inl (nI 1)), σ9)) else ts_bv (F_X3_readToken [.inr (.inr (.inl (4, 0)))] σ4) fun σ10 => ts_bi (F_X3_readKept [.inr (.inr (.inl (4, 0))), .inr (.inr (.inl (2, 0))), .inl (nI (nS ρ))] σ10) fun x12 σ11 => if x12 = nI 0 then some (some (.inl (nI 0)), σ11) else ts_bi (F_X3_isWord [.inr (.inr (.inl (4, 0))), .inr (.inr (.inr 10))] σ11) fun x14 σ13 => if x14 = nI 0 then some (some (.inl (nI 1)), σ13) else ts_ck (nI (nS ρ)) 8 <| ts_nw (ts_up σ13 2 4 ((nI (nS ρ)).toNatClampNeg) (nI 1)) fun σ15 => ts_bv (F_X3_readToken [.inr (.inr (.inl (4, 0)))] σ15) fun σ16 => some (some (.inl (nI 1)), σ16)) = o → F_X3_readSill [.inr (.inr (.inl (4, 0))), .inr (.inr (.inl (2, 0))), .inl (nI kd)] (cs σ y τ) = o := by
      intro o ho
      rw [e_X3_readSill, a1, bi_s, if_neg (nm (by omega)), t1, bv_s]
      exact ho
    by_cases w9 : WD (σ 4 1) k b1 9
    · obtain ⟨y2, t2, Y2⟩ := c_tok τ1 hB nb.2.1 Y1
      have nb2 := T_n_b (σ 4 1) nb.2.1
      have mg : ∀ σ' : ts_S, (∀ j, j < k → σ' 6 5 j = σ 4 1 j) → F_X5_readSill [.inr (.inr (.inl (6, 0))), .inl (nI kd), .inl (nI (8 * n))] (mz σ' z f) = ts_bi (F_X5_number [.inr (.inr (.inl (6, 0))), .inl (nI 0), .inl (nI 11)] (mz σ' (zt (zt z (σ 4 1) k b1) (σ 4 1) k (T_n (σ 4 1) k b1)) f1)) fun x13 σ12 => ts_ck (nI (8 * n) + (nI 3)) 960 <| ts_nw (ts_up σ12 6 7 ((nI (8 * n) + (nI 3)).toNatClampNeg) x13) fun σ14 => H_X5_readSill_61 (nI kd) (nI (8 * n)) (nI 1) σ14 := by
        intro σ' hm
        rw [mf σ' hm, m_tw_t (by omega) hB hm nb.2.1 Z1 z11 w9, bi_s, if_neg n10]
      have cg : ∀ o, (ts_bi (H_X3_readKept_2 (nI (nS ρ)) (nI 0) (cs σ y2 τ1)) fun x12 σ11 => if x12 = nI 0 then some (some (.inl (nI 0)), σ11) else ts_bi (F_X3_isWord [.inr (.inr (.inl (4, 0))), .inr (.inr (.inr 10))] σ11) fun x14 σ13 => if x14 = nI 0 then some (some (.inl (nI 1)), σ13) else ts_ck (nI (nS ρ)) 8 <| ts_nw (ts_up σ13 2 4 ((nI (nS ρ)).toNatClampNeg) (nI 1)) fun σ15 => ts_bv (F_X3_readToken [.inr (.inr (.inl (4, 0)))] σ15) fun σ16 => some (some (.inl (nI 1)), σ16)) = o → F_X3_readSill [.inr (.inr (.inl (4, 0))), .inr (.inr (.inl (2, 0))), .inl (nI kd)] (cs σ y τ) = o := by
        intro o ho
        refine cf o ?_
        rw [c_isWord_t (by omega) hB.1 nb.2.1 Y1 w9, bi_s, if_neg n10, t2, bv_s, e_X3_readKept]
        exact ho
      generalize hb2 : T_n (σ 4 1) k b1 = b2 at nb2 Y2 mg
      have Z2 : ZT (zt (zt z (σ 4 1) k b1) (σ 4 1) k b2) (σ 4 1) k b2 := zt_Z Z1.1
      have o2 : ∀ i, ¬ (7 ≤ i ∧ i ≤ 10) → zt (zt z (σ 4 1) k b1) (σ 4 1) k b2 i = z i := fun i hi => by rw [zt_o _ _ _ _ hi, zt_o _ _ _ _ hi]
      generalize hz2 : zt (zt z (σ 4 1) k b1) (σ 4 1) k b2 = z2 at mg Z2 o2
      have i8 : nS ρ < 8 := h8
      have t5 : τ1 5 (nS ρ) = nI 0 := ((RQ_S R1 (i := nS ρ) (by omega)).2.2.2.1).trans n3
      by_cases N : T_t (σ 4 1) k b2 = 2 ∧ nI (T_v (σ 4 1) k b2) ≤ nI 11
      · have v11 : T_v (σ 4 1) k b2 < 12 := by
          have := (nI_leI (by have := T_v_b (σ 4 1) k b2; omega) (by omega)).mp N.2
          omega
        have nk : nK (S_new ρ (nI kd)) (nS ρ) = 0 := by unfold nK; rw [n3, nI_clamp (by omega)]
        have K := c_keep hq2 (nI (T_v (σ 4 1) k b2)) (cs σ y2 τ1) (ρ := S_new ρ (nI kd)) R1 (i := nS ρ) (by omega) (by omega)
        have R2 := RQ_lay R1 (i := nS ρ) (w := T_v (σ 4 1) k b2) (by omega) (by omega) v11
        rw [cs_g, cs_2] at K
        obtain ⟨y3, t3, Y3⟩ := c_tok (qu (qu τ1 6 (5 * nS ρ + nK (S_new ρ (nI kd)) (nS ρ)) (nI (T_v (σ 4 1) k b2))) 5 (nS ρ) (τ1 5 (nS ρ) + nI 1)) hB nb2.2.1 Y2
        have nb3 := T_n_b (σ 4 1) nb2.2.1
        have el : LY (upd f1 (8 * n + 3) (nI (T_v (σ 4 1) k b2))) (8 * n) (nS ρ) 1 (S_new ρ (nI kd)) = S_lay (S_new ρ (nI kd)) (nS ρ) (nI (T_v (σ 4 1) k b2)) := by
          show S_lay (S_new ρ (nI kd)) (nS ρ) (upd f1 (8 * n + 3) (nI (T_v (σ 4 1) k b2)) (8 * n + 3)) = _
          rw [upd_at]
        obtain ⟨y4, τ4, z4, f4, q1, q2, q3, q4, q5⟩ := j_kept (ρ1 := S_new ρ (nI kd)) (i := nS ρ) (a := 8 * n) hB (by omega) (nI kd) n3 (by omega) 4 1 (T_n (σ 4 1) k b2) y3 _ (zt z2 (σ 4 1) k (T_n (σ 4 1) k b2)) (upd f1 (8 * n + 3) (nI (T_v (σ 4 1) k b2))) (by omega) (by omega) nb3.2.1 Y3 (zt_Z Z2.1) (by rw [zt_o _ _ _ _ (by omega), o2 _ (by omega)]; exact e11) (by rw [el]; exact R2)
        have mh : ∀ σ' : ts_S, (∀ j, j < k → σ' 6 5 j = σ 4 1 j) → F_X5_readSill [.inr (.inr (.inl (6, 0))), .inl (nI kd), .inl (nI (8 * n))] (mz σ' z f) = RSm (nI (8 * n)) (mz σ' z4 f4) := by
          intro σ' hm
          rw [mg σ' hm, m_num_t hB hm nb2.2.1 Z2 (by rw [o2 _ (by omega)]; exact e11) N, bi_s, nI_add, ck_n _ (by omega) (by omega), nw_s, nI_clamp (by omega), mz_w, q2 σ' hm]
        have o4 : ∀ i, ¬ (7 ≤ i ∧ i ≤ 11) → z4 i = z i := fun i hi => by rw [q4 i hi, zt_o _ _ _ _ (by omega), o2 i (by omega)]
        have l4 : ∀ i, i < 8 * n → f4 i = f i := fun i hi => by rw [q3 i (by omega), upd_ne _ _ (by omega), gl i hi]
        have ch : ∀ o, (ts_bi (F_X3_isWord [.inr (.inr (.inl (4, 0))), .inr (.inr (.inr 10))] (cs σ y4 τ4)) fun x14 σ13 => if x14 = nI 0 then some (some (.inl (nI 1)), σ13) else ts_ck (nI (nS ρ)) 8 <| ts_nw (ts_up σ13 2 4 ((nI (nS ρ)).toNatClampNeg) (nI 1)) fun σ15 => ts_bv (F_X3_readToken [.inr (.inr (.inl (4, 0)))] σ15) fun σ16 => some (some (.inl (nI 1)), σ16)) = o → F_X3_readSill [.inr (.inr (.inl (4, 0))), .inr (.inr (.inl (2, 0))), .inl (nI kd)] (cs σ y τ) = o := by
          intro o ho
          refine cg o ?_
          rw [h_X3_readKept_2, if_neg (nI_ge (by omega) (by omega)), c_num_t Y2 N, bi_s, if_neg n10, cs_r, Y2.2.2.2.2 N.1, K, bi_s, t3, bv_s, nI_add, q1, bi_s, if_neg n10]
          exact ho
        rcases q5 with ⟨b', m', p1, p2, p3, p4, p5, p6, p7, p8⟩ | ⟨b', p1, p2, p3, p4, p5⟩
        · obtain ⟨y5, τ5, z5, f5, r1, r2, r3, r4, b5, ρ5, r5, r6, r7, r8, r9, r10, r11, r12⟩ := j_tail hB hn hkd p6 W h8 p2 p3 p4 p5 (by rw [o4 _ (by omega)]; exact e15) (by rw [q3 _ (by omega), upd_ne _ _ (by omega)]; exact g0) p7 p8
          refine ⟨1, y5, τ5, z5, f5, ch _ r1, fun σ' hm => (mh σ' hm).trans (r2 σ' hm), fun i hi => by rw [r3 i (by omega) (by omega), o4 i (by omega)], fun i hi => by rw [r4 i (by omega), l4 i hi], Or.inl ⟨rfl, b5, ρ5, by omega, r6, r7, r8, by rw [r3 _ (by omega) (by omega)]; exact p5, by rw [r3 _ (by omega) (by omega), o4 _ (by omega)], r9, ?_, r11, r12⟩⟩
          rw [r3 _ (by omega) (by omega), o4 _ (by omega), e16, r10]
        · have nw : ¬ WD (σ 4 1) k b' 10 := fun q => by have := q.1; omega
          refine ⟨1, y4, τ4, upd z4 15 (z4 15 + nI 1), upd f4 (8 * n + 1) (nI 0), ch _ ?_, fun σ' hm => (mh σ' hm).trans (rm_0 (by omega) (m_tw_w 10 (by omega) p5)), fun i hi => by rw [upd_ne _ _ (by omega), o4 i (by omega)], fun i hi => by rw [upd_ne _ _ (by omega), l4 i hi], Or.inr (Or.inr ⟨rfl, b', p1, by rw [p2.2.1, p3], p2.2.2.1, by rw [upd_ne _ _ (by omega)]; exact p4, by rw [upd_ne _ _ (by omega)]; exact p5⟩)⟩
          rw [c_isWord_f (by omega) hB.1 p1 p2 nw, bi_s, if_pos rfl]
      · refine ⟨0, y2, τ1, upd (upd z2 11 (nI 1)) 15 (upd z2 11 (nI 1) 15 + nI 1), upd (upd (upd f1 (8 * n + 3) (z2 10)) (8 * n + 2) (nI 1)) (8 * n + 1) (nI 0), cg _ ?_, fun σ' hm => ?_, fun i hi => by rw [upd_ne _ _ (by omega), upd_ne _ _ (by omega), o2 i (by omega)], fun i hi => by rw [upd_ne _ _ (by omega), upd_ne _ _ (by omega), upd_ne _ _ (by omega), gl i hi], Or.inr (Or.inl ⟨rfl, b2, nb2.2.1, Y2.2.2.1, by rw [upd_ne _ _ (by omega), upd_ne _ _ (by omega)]; exact Z2.2.2.1, by rw [upd_ne _ _ (by omega), upd_at]⟩)⟩
        · rw [h_X3_readKept_2, if_neg (nI_ge (by omega) (by omega)), c_num_f Y2 N, bi_s, if_pos rfl, ck_n _ h8 (by omega), nI_clamp (by omega), cs_2, t5, if_pos (by decide), bi_s, if_pos rfl]
        · rw [mg σ' hm, m_num_f Z2 (by rw [o2 _ (by omega)]; exact e11) N, bi_s, nI_add, ck_n _ (by omega) (by omega), nw_s, nI_clamp (by omega), mz_w, rs_h, mz_r, upd_at, if_neg n10, rx_e (by omega), rm_0 (by omega) (m_tw_w 10 (by omega) (upd_at _ _ _))]
    · obtain ⟨y5, τ5, z5, f5, r1, r2, r3, r4, b5, ρ5, r5, r6, r7, r8, r9, r10, r11, r12⟩ := j_tail (m := 0) (ρ := ρ) hB hn hkd (by omega) W h8 nb.2.1 Y1 Z1 z11 z15 g0 g2 R1
      refine ⟨1, y5, τ5, z5, f5, cf _ ?_, fun σ' hm => ?_, fun i hi => by rw [r3 i (by omega) (by omega), zt_o _ _ _ _ (by omega)], fun i hi => by rw [r4 i (by omega), gl i hi], Or.inl ⟨rfl, b5, ρ5, by omega, r6, r7, r8, by rw [r3 _ (by omega) (by omega)]; exact z11, by rw [r3 _ (by omega) (by omega), zt_o _ _ _ _ (by omega)], r9, ?_, r11, r12⟩⟩
      · rw [c_isWord_f (by omega) hB.1 nb.2.1 Y1 w9, bi_s, if_pos rfl]; exact r1
      · rw [mf σ' hm, m_tw_f (by omega) hB hm nb.2.1 Z1 z11 w9, bi_s, if_pos rfl]; exact r2 σ' hm
      · rw [r3 _ (by omega) (by omega), zt_o _ _ _ _ (by omega), e16, r10]
  · refine ⟨0, y, τ, upd (upd z 11 (nI 1)) 15 (upd z 11 (nI 1) 15 + nI 1), upd (upd (upd f (8 * n) (nI kd)) (8 * n + 2) (nI 0)) (8 * n + 1) (nI 0), ?_, fun σ' hm => ?_, fun i hi => by rw [upd_ne _ _ (by omega), upd_ne _ _ (by omega)], fun i hi => by rw [upd_ne _ _ (by omega), upd_ne _ _ (by omega), upd_ne _ _ (by omega)], Or.inr (Or.inl ⟨rfl, b, hb, Y.2.2.1, by rw [upd_ne _ _ (by omega), upd_ne _ _ (by omega)]; exact Z.2.2.1, by rw [upd_ne _ _ (by omega), upd_at]⟩)⟩
    · rw [e_X3_readSill, c_addSill_n hq2 _ (cs σ y τ) R h8, bi_s, if_pos rfl]
    · rw [rs_e, mz_r, e15, if_pos (nI_le (by omega) (by omega)), m_must_f e11, bv_s]
      unfold RSb
      rw [ck_n _ (by omega) (by omega), nw_s, nI_clamp (by omega), mz_w, nI_add, ck_n _ (by omega) (by omega), nw_s, nI_clamp (by omega), mz_w, m_tw_w 9 (by omega) (upd_at _ _ _), bi_s, if_pos rfl, rm_0 (by omega) (m_tw_w 10 (by omega) (upd_at _ _ _))]
