/-! a crossing of the text -/
noncomputable def RC (v1 : Int32) (σ3 : ts_S) : Option ts_A := ts_ck v1 960 <| ts_nw (ts_up σ3 6 7 (v1.toNatClampNeg) (nI 11)) fun σ7 => ts_bi (F_X5_number [.inr (.inr (.inl (6, 0))), .inl (nI 0), .inl (nI 5)] σ7) fun x9 σ8 => ts_ck (v1 + (nI 1)) 960 <| ts_nw (ts_up σ8 6 7 ((v1 + (nI 1)).toNatClampNeg) x9) fun σ10 => ts_bi (F_X5_number [.inr (.inr (.inl (6, 0))), .inl (nI 0), .inl (nI 5)] σ10) fun x12 σ11 => ts_ck (v1 + (nI 2)) 960 <| ts_nw (ts_up σ11 6 7 ((v1 + (nI 2)).toNatClampNeg) x12) fun σ13 => ts_bi (F_X5_number [.inr (.inr (.inl (6, 0))), .inl (nI 0), .inl (nI 7)] σ13) fun x15 σ14 => ts_ck (v1 + (nI 3)) 960 <| ts_nw (ts_up σ14 6 7 ((v1 + (nI 3)).toNatClampNeg) x15) fun σ16 => ts_nw (ts_up σ16 6 0 14 ((σ16 6 0 14) + (nI 1))) fun σ17 => some (none, σ17)
theorem rc_e {σ : ts_S} {z z1 z2 z3 f : Nat → Int32} {a : Nat} {x1 x2 x3 : Int32} (ha : a + 8 ≤ 960) (h1 : F_X5_number [.inr (.inr (.inl (6, 0))), .inl (nI 0), .inl (nI 5)] (mz σ z (upd f a (nI 11))) = some (some (.inl x1), mz σ z1 (upd f a (nI 11)))) (h2 : F_X5_number [.inr (.inr (.inl (6, 0))), .inl (nI 0), .inl (nI 5)] (mz σ z1 (upd (upd f a (nI 11)) (a + 1) x1)) = some (some (.inl x2), mz σ z2 (upd (upd f a (nI 11)) (a + 1) x1))) (h3 : F_X5_number [.inr (.inr (.inl (6, 0))), .inl (nI 0), .inl (nI 7)] (mz σ z2 (upd (upd (upd f a (nI 11)) (a + 1) x1) (a + 2) x2)) = some (some (.inl x3), mz σ z3 (upd (upd (upd f a (nI 11)) (a + 1) x1) (a + 2) x2))) : RC (nI a) (mz σ z f) = some (none, mz σ (upd z3 14 (z3 14 + nI 1)) (upd (upd (upd (upd f a (nI 11)) (a + 1) x1) (a + 2) x2) (a + 3) x3)) := by
  unfold RC
  rw [ck_n _ (by omega) (by omega), nw_s, nI_clamp (by omega), mz_w, h1, bi_s, nI_add, nI_add, nI_add, ck_n _ (by omega) (by omega), nw_s, nI_clamp (by omega), mz_w, h2, bi_s, ck_n _ (by omega) (by omega), nw_s, nI_clamp (by omega), mz_w, h3, bi_s, ck_n _ (by omega) (by omega), nw_s, nI_clamp (by omega), mz_w, nw_s, mz_r, mz_u]
theorem told_cross {f ρ : Nat → Int32} {a l p s : Nat} (ha : a + 8 ≤ 960) (hl : l < 6) (f0 : f a = nI 11) (f1 : f (a + 1) = nI l) (f2 : f (a + 2) = nI p) (f3 : f (a + 3) = nI s) : IV f a ρ (upd ρ (5 + l) (nI (10 * p + s))) := by
  intro σ hf h1
  have g0 : σ 6 7 a = nI 11 := (hf 0 (by omega)).trans f0
  have g1 : σ 6 7 (a + 1) = nI l := (hf 1 (by omega)).trans f1
  have g2 : σ 6 7 (a + 2) = nI p := (hf 2 (by omega)).trans f2
  have g3 : σ 6 7 (a + 3) = nI s := (hf 3 (by omega)).trans f3
  rw [e_X5_isToldSo, nI_add, nI_add, ck_n _ (show a + 1 < 960 by omega) (by omega), ni_s, ck_n _ (show a + 2 < 960 by omega) (by omega), ni_s, ck_n _ (show a < 960 by omega) (by omega), nI_clamp (show a + 1 < 2 ^ 31 by omega), nI_clamp (show a + 2 < 2 ^ 31 by omega), nI_clamp (show a < 2 ^ 31 by omega), g0, g1, g2, if_neg (by decide), if_pos rfl, nI_add, nI_add, ck_n _ (show a + 3 < 960 by omega) (by omega), ck_n _ (show 5 + l < 111 by omega) (by omega), nw_s, nI_clamp (show 5 + l < 2 ^ 31 by omega), nI_clamp (show a + 3 < 2 ^ 31 by omega), g3, pk_mul, nI_add, mr_up, h1]
theorem j_cross {σ : ts_S} {k n b : Nat} {y : Nat → Int32} {τ : Nat → Nat → Int32} {z f ρ : Nat → Int32} (hB : TB (σ 4 1) k) (hn : n < 120) (hb : b ≤ k) (Y : YT y (σ 4 1) k b) (Z : ZT z (σ 4 1) k b) (e11 : z 11 = nI 0) (e15 : z 15 = nI (nS ρ)) (e16 : z 16 = nI (nP ρ)) (R : RQ τ ρ) : ∃ x y' τ' z' f', F_X3_readCrossing [.inr (.inr (.inl (4, 0))), .inr (.inr (.inl (2, 0)))] (cs σ y τ) = some (some (.inl (nI x)), cs σ y' τ') ∧ (∀ σ' : ts_S, (∀ j, j < k → σ' 6 5 j = σ 4 1 j) → RC (nI (8 * n)) (mz σ' (zt z (σ 4 1) k (T_n (σ 4 1) k b)) f) = some (none, mz σ' (upd z' 14 (z' 14 + nI 1)) f')) ∧ OUT (σ 4 1) k b n z f ρ x y' τ' z' f' := by
  have W := R.1
  have nb := T_n_b (σ 4 1) hb
  obtain ⟨y1, t1, Y1⟩ := c_tok τ hB hb Y
  generalize hb1 : T_n (σ 4 1) k b = b1 at nb Y1
  have Z1 : ZT (zt z (σ 4 1) k b1) (σ 4 1) k b1 := zt_Z Z.1
  have o1 : ∀ i, ¬ (7 ≤ i ∧ i ≤ 10) → zt z (σ 4 1) k b1 i = z i := fun i hi => zt_o _ _ _ _ hi
  generalize hz1 : zt z (σ 4 1) k b1 = z1 at Z1 o1
  have z111 : z1 11 = nI 0 := by rw [o1 _ (by omega)]; exact e11
  by_cases N1 : T_t (σ 4 1) k b1 = 2 ∧ nI (T_v (σ 4 1) k b1) ≤ nI 5
  · have v1 : T_v (σ 4 1) k b1 < 6 := by
      have := (nI_leI (by have := T_v_b (σ 4 1) k b1; omega) (by omega)).mp N1.2
      omega
    have nb2 := T_n_b (σ 4 1) nb.2.1
    obtain ⟨y2, t2, Y2⟩ := c_tok τ hB nb.2.1 Y1
    have m1 : ∀ (σ' : ts_S) f, (∀ j, j < k → σ' 6 5 j = σ 4 1 j) → F_X5_number [.inr (.inr (.inl (6, 0))), .inl (nI 0), .inl (nI 5)] (mz σ' z1 f) = some (some (.inl (nI (T_v (σ 4 1) k b1))), mz σ' (zt z1 (σ 4 1) k (T_n (σ 4 1) k b1)) f) := fun σ' f hm => m_num_t hB hm nb.2.1 Z1 z111 N1
    generalize hb2 : T_n (σ 4 1) k b1 = b2 at nb2 Y2 m1
    have Z2 : ZT (zt z1 (σ 4 1) k b2) (σ 4 1) k b2 := zt_Z Z1.1
    have o2 : ∀ i, ¬ (7 ≤ i ∧ i ≤ 10) → zt z1 (σ 4 1) k b2 i = z i := fun i hi => by rw [zt_o _ _ _ _ hi, o1 _ hi]
    generalize hz2 : zt z1 (σ 4 1) k b2 = z2 at Z2 o2 m1
    have z211 : z2 11 = nI 0 := by rw [o2 _ (by omega)]; exact e11
    by_cases N2 : T_t (σ 4 1) k b2 = 2 ∧ nI (T_v (σ 4 1) k b2) ≤ nI 5
    · have v2 : T_v (σ 4 1) k b2 < 6 := by
        have := (nI_leI (by have := T_v_b (σ 4 1) k b2; omega) (by omega)).mp N2.2
        omega
      have nb3 := T_n_b (σ 4 1) nb2.2.1
      obtain ⟨y3, t3, Y3⟩ := c_tok τ hB nb2.2.1 Y2
      have m2 : ∀ (σ' : ts_S) f, (∀ j, j < k → σ' 6 5 j = σ 4 1 j) → F_X5_number [.inr (.inr (.inl (6, 0))), .inl (nI 0), .inl (nI 5)] (mz σ' z2 f) = some (some (.inl (nI (T_v (σ 4 1) k b2))), mz σ' (zt z2 (σ 4 1) k (T_n (σ 4 1) k b2)) f) := fun σ' f hm => m_num_t hB hm nb2.2.1 Z2 z211 N2
      generalize hb3 : T_n (σ 4 1) k b2 = b3 at nb3 Y3 m2
      have Z3 : ZT (zt z2 (σ 4 1) k b3) (σ 4 1) k b3 := zt_Z Z2.1
      have o3 : ∀ i, ¬ (7 ≤ i ∧ i ≤ 10) → zt z2 (σ 4 1) k b3 i = z i := fun i hi => by rw [zt_o _ _ _ _ hi, o2 _ hi]
      generalize hz3 : zt z2 (σ 4 1) k b3 = z3 at Z3 o3 m2
      have z311 : z3 11 = nI 0 := by rw [o3 _ (by omega)]; exact e11
      by_cases N3 : T_t (σ 4 1) k b3 = 2 ∧ nI (T_v (σ 4 1) k b3) ≤ nI 7
      · have v3 : T_v (σ 4 1) k b3 < 8 := by
          have := (nI_leI (by have := T_v_b (σ 4 1) k b3; omega) (by omega)).mp N3.2
          omega
        have W' := WR_head W (a := 5 + T_v (σ 4 1) k b1) (v := nI (10 * T_v (σ 4 1) k b2 + T_v (σ 4 1) k b3)) (by omega) (by omega) (by omega) (fun h => by omega) (fun h => by omega) (fun _ => ⟨_, _, v2, v3, rfl⟩) (fun h => by omega)
        have R1 := RQ_head R (c := 1) (j := T_v (σ 4 1) k b1) W' (Or.inr (Or.inl ⟨rfl, v1, rfl⟩))
        have nb4 := T_n_b (σ 4 1) nb3.2.1
        obtain ⟨y4, t4, Y4⟩ := c_tok (qu τ 1 (T_v (σ 4 1) k b1) (nI (10 * T_v (σ 4 1) k b2 + T_v (σ 4 1) k b3))) hB nb3.2.1 Y3
        refine ⟨1, y4, _, zt z3 (σ 4 1) k (T_n (σ 4 1) k b3), upd (upd (upd (upd f (8 * n) (nI 11)) (8 * n + 1) (nI (T_v (σ 4 1) k b1))) (8 * n + 2) (nI (T_v (σ 4 1) k b2))) (8 * n + 3) (nI (T_v (σ 4 1) k b3)), ?_, fun σ' hm => rc_e (by omega) (m1 σ' _ hm) (m2 σ' _ hm) (m_num_t hB hm nb3.2.1 Z3 z311 N3), fun i hi => by rw [zt_o _ _ _ _ (by omega), o3 _ (by omega)], fun i hi => by rw [upd_ne _ _ (by omega), upd_ne _ _ (by omega), upd_ne _ _ (by omega), upd_ne _ _ (by omega)], Or.inl ⟨rfl, T_n (σ 4 1) k b3, upd ρ (5 + T_v (σ 4 1) k b1) (nI (10 * T_v (σ 4 1) k b2 + T_v (σ 4 1) k b3)), by omega, nb4.2.1, Y4, zt_Z Z3.1, by rw [zt_o _ _ _ _ (by omega)]; exact z311, by rw [zt_o _ _ _ _ (by omega), o3 _ (by omega)], by rw [zt_o _ _ _ _ (by omega), o3 _ (by omega), e15, nS_upd (by omega)], by rw [zt_o _ _ _ _ (by omega), o3 _ (by omega), e16, nP_upd (by omega)], R1, told_cross (by omega) v1 ?_ ?_ ?_ ?_⟩⟩
        · rw [e_X3_readCrossing, t1, bv_s, c_num_t Y1 N1, bi_s, if_neg n10, cs_r, Y1.2.2.2.2 N1.1, ni_s, t2, bv_s, c_num_t Y2 N2, bi_s, if_neg n10, cs_r, Y2.2.2.2.2 N2.1, ni_s, t3, bv_s, c_num_t Y3 N3, bi_s, if_neg n10, ck_n _ v1 (by omega), nw_s, nI_clamp (by omega), cs_r, Y3.2.2.2.2 N3.1, pk_mul, nI_add, cs_q, t4, bv_s]
        · rw [upd_ne _ _ (by omega), upd_ne _ _ (by omega), upd_ne _ _ (by omega), upd_at]
        · rw [upd_ne _ _ (by omega), upd_ne _ _ (by omega), upd_at]
        · rw [upd_ne _ _ (by omega), upd_at]
        · rw [upd_at]
      · refine ⟨0, y3, τ, upd z3 11 (nI 1), upd (upd (upd (upd f (8 * n) (nI 11)) (8 * n + 1) (nI (T_v (σ 4 1) k b1))) (8 * n + 2) (nI (T_v (σ 4 1) k b2))) (8 * n + 3) (z3 10), ?_, fun σ' hm => rc_e (by omega) (m1 σ' _ hm) (m2 σ' _ hm) (m_num_f Z3 z311 N3), fun i hi => by rw [upd_ne _ _ (by omega), o3 _ (by omega)], fun i hi => by rw [upd_ne _ _ (by omega), upd_ne _ _ (by omega), upd_ne _ _ (by omega), upd_ne _ _ (by omega)], Or.inr (Or.inl ⟨rfl, b3, nb3.2.1, Y3.2.2.1, by rw [upd_ne _ _ (by omega)]; exact Z3.2.2.1, upd_at _ _ _⟩)⟩
        rw [e_X3_readCrossing, t1, bv_s, c_num_t Y1 N1, bi_s, if_neg n10, ni_s, t2, bv_s, c_num_t Y2 N2, bi_s, if_neg n10, ni_s, t3, bv_s, c_num_f Y3 N3, bi_s, if_pos rfl]
    · refine ⟨0, y2, τ, upd z2 11 (nI 1), upd (upd (upd (upd f (8 * n) (nI 11)) (8 * n + 1) (nI (T_v (σ 4 1) k b1))) (8 * n + 2) (z2 10)) (8 * n + 3) (upd z2 11 (nI 1) 10), ?_, fun σ' hm => rc_e (by omega) (m1 σ' _ hm) (m_num_f Z2 z211 N2) (m_num_w (upd_at _ _ _) _), fun i hi => by rw [upd_ne _ _ (by omega), o2 _ (by omega)], fun i hi => by rw [upd_ne _ _ (by omega), upd_ne _ _ (by omega), upd_ne _ _ (by omega), upd_ne _ _ (by omega)], Or.inr (Or.inl ⟨rfl, b2, nb2.2.1, Y2.2.2.1, by rw [upd_ne _ _ (by omega)]; exact Z2.2.2.1, upd_at _ _ _⟩)⟩
      rw [e_X3_readCrossing, t1, bv_s, c_num_t Y1 N1, bi_s, if_neg n10, ni_s, t2, bv_s, c_num_f Y2 N2, bi_s, if_pos rfl]
  · refine ⟨0, y1, τ, upd z1 11 (nI 1), upd (upd (upd (upd f (8 * n) (nI 11)) (8 * n + 1) (z1 10)) (8 * n + 2) (upd z1 11 (nI 1) 10)) (8 * n + 3) (upd z1 11 (nI 1) 10), ?_, fun σ' hm => rc_e (by omega) (m_num_f Z1 z111 N1) (m_num_w (upd_at _ _ _) _) (m_num_w (upd_at _ _ _) _), fun i hi => by rw [upd_ne _ _ (by omega), o1 _ (by omega)], fun i hi => by rw [upd_ne _ _ (by omega), upd_ne _ _ (by omega), upd_ne _ _ (by omega), upd_ne _ _ (by omega)], Or.inr (Or.inl ⟨rfl, b1, nb.2.1, Y1.2.2.1, by rw [upd_ne _ _ (by omega)]; exact Z1.2.2.1, upd_at _ _ _⟩)⟩
    rw [e_X3_readCrossing, t1, bv_s, c_num_f Y1 N1, bi_s, if_pos rfl]
/-! an item of the text -/
noncomputable def RE (σ : ts_S) : Option ts_A := ts_nw (ts_up σ 6 0 14 ((σ 6 0 14) + (nI 1))) fun σ6 => some (none, σ6)
theorem re_e (σ : ts_S) (z f : Nat → Int32) : RE (mz σ z f) = some (none, mz σ (upd z 14 (z 14 + nI 1)) f) := by
  unfold RE
  rw [nw_s, mz_r, mz_u]
theorem ri_7 (v1 v2 : Int32) (σ : ts_S) : H_X5_readItem_12 v1 v2 (nI 7) σ = if v2 < nI 0 then (ts_bi (F_X5_isWord [.inr (.inr (.inl (6, 0))), .inr (.inr (.inr 7))] σ) fun x2 σ1 => if x2 = nI 0 then (ts_bi (F_X5_takesWord [.inr (.inr (.inl (6, 0))), .inr (.inr (.inr 8))] σ1) fun x4 σ3 => if x4 = nI 0 then ts_bv (F_X5_must [.inr (.inr (.inl (6, 0))), .inl (nI 0)] σ3) RE else RC v1 σ3) else ts_bv (F_X5_readPerson [.inr (.inr (.inl (6, 0))), .inl v1] σ1) RE) else ts_bv (F_X5_readSill [.inr (.inr (.inl (6, 0))), .inl v2, .inl v1] σ) RE := by
  rw [h_X5_readItem_12, if_pos (by decide)]; rfl
theorem m_item_0 {σ' : ts_S} {z f h : Nat → Int32} {k b n : Nat} (hB : TB h k) (hb : b ≤ k) (hm : ∀ i, i < k → σ' 6 5 i = h i) (Z : ZT z h k b) (e11 : z 11 = nI 0) (e14 : z 14 = nI n) (H : ∀ j, j < 9 → ¬ WD h k b j) : F_X5_readItem [.inr (.inr (.inl (6, 0)))] (mz σ' z f) = some (none, mz σ' (upd (upd z 11 (nI 1)) 14 (upd z 11 (nI 1) 14 + nI 1)) f) := by
  rw [e_X5_readItem, mz_r, e14, pk_mul, ni_s, m_kind_o (l := 0) _ _ hB.1 hb hm Z (fun j _ h2 => H j (by omega)) 7 0 (by omega) (by omega), ri_7, if_pos m1lt, m_isWord_f (by omega) hB.1 hb hm Z (H 7 (by omega)), bi_s, if_pos rfl, m_tw_f (by omega) hB hm hb Z e11 (H 8 (by omega)), bi_s, if_pos rfl, m_must_f e11, bv_s, re_e]
theorem j_item {σ : ts_S} {k n b : Nat} {y : Nat → Int32} {τ : Nat → Nat → Int32} {z f ρ : Nat → Int32} (hB : TB (σ 4 1) k) (hn : n ≤ b) (hb : b ≤ k) (Y : YT y (σ 4 1) k b) (Z : ZT z (σ 4 1) k b) (e11 : z 11 = nI 0) (e14 : z 14 = nI n) (e15 : z 15 = nI (nS ρ)) (e16 : z 16 = nI (nP ρ)) (R : RQ τ ρ) : ∃ x y' τ' z' f', F_X3_readItem [.inr (.inr (.inl (4, 0))), .inr (.inr (.inl (2, 0)))] (cs σ y τ) = some (some (.inl (nI x)), cs σ y' τ') ∧ (∀ σ' : ts_S, (∀ j, j < k → σ' 6 5 j = σ 4 1 j) → F_X5_readItem [.inr (.inr (.inl (6, 0)))] (mz σ' z f) = some (none, mz σ' (upd z' 14 (z' 14 + nI 1)) f')) ∧ OUT (σ 4 1) k b n z f ρ x y' τ' z' f' := by
  have tc := T_t_c (σ 4 1) k b
  have hk := hB.1
  by_cases w7 : WD (σ 4 1) k b 7
  · have hn2 : n < 120 := by have := w7.1; have := tc.2.2.2.1 (by omega); omega
    obtain ⟨x, y', τ', z', f', r1, r2, r3⟩ := j_person (f := f) hB hn2 hb Y Z e11 e15 e16 R
    have hx : x = 0 ∨ x = 1 := by rcases r3.2.2 with q | q | q <;> have := q.1 <;> omega
    refine ⟨x, y', τ', z', f', ?_, fun σ' hm => ?_, r3⟩
    · rw [e_X3_readItem, c_isWord_t (by omega) hk hb Y w7, bi_s, if_neg n10, r1, bi_s, if_pos (by rcases hx with rfl | rfl; exact Or.inl rfl; exact Or.inr rfl)]
    · rw [e_X5_readItem, mz_r, e14, pk_mul, ni_s, m_kind_o (l := 0) _ _ hk hb hm Z (fun j _ h2 q => by have := WD_inj (by omega) (by omega) w7 q; omega) 7 0 (by omega) (by omega), ri_7, if_pos m1lt, m_isWord_t (by omega) hk hb hm Z w7, bi_s, if_neg n10, r2 σ' hm, bv_s, re_e]
  · by_cases w8 : WD (σ 4 1) k b 8
    · have hn2 : n < 120 := by have := w8.1; have := tc.2.2.2.1 (by omega); omega
      obtain ⟨x, y', τ', z', f', r1, r2, r3⟩ := j_cross (f := f) hB hn2 hb Y Z e11 e15 e16 R
      have hx : x = 0 ∨ x = 1 := by rcases r3.2.2 with q | q | q <;> have := q.1 <;> omega
      refine ⟨x, y', τ', z', f', ?_, fun σ' hm => ?_, r3⟩
      · rw [e_X3_readItem, c_isWord_f (by omega) hk hb Y w7, bi_s, if_pos rfl, c_isWord_t (by omega) hk hb Y w8, bi_s, if_neg n10, r1, bi_s, if_pos (by rcases hx with rfl | rfl; exact Or.inl rfl; exact Or.inr rfl)]
      · rw [e_X5_readItem, mz_r, e14, pk_mul, ni_s, m_kind_o (l := 0) _ _ hk hb hm Z (fun j _ h2 q => by have := WD_inj (by omega) (by omega) w8 q; omega) 7 0 (by omega) (by omega), ri_7, if_pos m1lt, m_isWord_f (by omega) hk hb hm Z w7, bi_s, if_pos rfl, m_tw_t (by omega) hB hm hb Z e11 w8, bi_s, if_neg n10, r2 σ' hm]
    · by_cases wk : ∃ j, j < 7 ∧ WD (σ 4 1) k b j
      · obtain ⟨j, hj, w⟩ := wk
        have hn2 : n < 120 := by have := w.1; have := tc.2.2.2.1 (by omega); omega
        obtain ⟨x, y', τ', z', f', r1, r2, r3⟩ := j_sill (f := f) hB hn2 hj hb Y Z e11 e15 e16 R
        have hx : x = 0 ∨ x = 1 := by rcases r3.2.2 with q | q | q <;> have := q.1 <;> omega
        refine ⟨x, y', τ', z', f', ?_, fun σ' hm => ?_, r3⟩
        · rw [e_X3_readItem, c_isWord_f (by omega) hk hb Y w7, bi_s, if_pos rfl, c_isWord_f (by omega) hk hb Y w8, bi_s, if_pos rfl, c_kind_t hk hb Y hj w, bi_s, if_neg (nm (by omega)), r1, bi_s]
          rcases hx with rfl | rfl
          · rw [if_pos rfl]
          · rw [if_neg n10]
        · rw [e_X5_readItem, mz_r, e14, pk_mul, ni_s, m_kind_l _ hk hb hm Z hj w j 0 _ (by omega), ri_7, if_neg (nn (by omega)), r2 σ' hm, bv_s, re_e]
      · have H : ∀ j, j < 9 → ¬ WD (σ 4 1) k b j := fun j hj q => by
          by_cases e7 : j = 7
          · subst e7; exact w7 q
          · by_cases e8 : j = 8
            · subst e8; exact w8 q
            · exact wk ⟨j, by omega, q⟩
        refine ⟨0, y, τ, upd z 11 (nI 1), f, ?_, fun σ' hm => m_item_0 hB hb hm Z e11 e14 H, fun i hi => by rw [upd_ne _ _ (by omega)], fun i hi => rfl, Or.inr (Or.inl ⟨rfl, b, hb, Y.2.2.1, by rw [upd_ne _ _ (by omega)]; exact Z.2.2.1, upd_at _ _ _⟩)⟩
        rw [e_X3_readItem, c_isWord_f (by omega) hk hb Y w7, bi_s, if_pos rfl, c_isWord_f (by omega) hk hb Y w8, bi_s, if_pos rfl, c_kind_f hk hb Y (fun j hj => H j (by omega)), bi_s, if_pos rfl]
