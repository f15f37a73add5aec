/-! a person of the text, read by both -/
noncomputable def RPi (a1 : Int32) (σ : ts_S) : Option ts_A := ts_bi (F_X5_takesWord [.inr (.inr (.inl (6, 0))), .inr (.inr (.inr 12))] σ) fun x7 σ6 => if x7 = nI 0 then (ts_ck (a1 + (nI 2)) 960 <| ts_nw (ts_up σ6 6 7 ((a1 + (nI 2)).toNatClampNeg) (-1)) fun σ8 => ts_nw (ts_up σ8 6 0 16 ((σ8 6 0 16) + (nI 1))) fun σ9 => some (none, σ9)) else ts_bi (F_X5_number [.inr (.inr (.inl (6, 0))), .inl (nI 0), .inl ((σ6 6 0 15) - (nI 1))] σ6) fun x11 σ10 => ts_ck (a1 + (nI 2)) 960 <| ts_nw (ts_up σ10 6 7 ((a1 + (nI 2)).toNatClampNeg) x11) fun σ12 => ts_nw (ts_up σ12 6 0 16 ((σ12 6 0 16) + (nI 1))) fun σ13 => some (none, σ13)
noncomputable def RPb (a1 : Int32) (σ : ts_S) : Option ts_A := ts_ck a1 960 <| ts_nw (ts_up σ 6 7 (a1.toNatClampNeg) (nI 10)) fun σ2 => ts_bi (F_X5_takesWord [.inr (.inr (.inl (6, 0))), .inr (.inr (.inr 11))] σ2) fun x4 σ3 => if x4 = nI 0 then (ts_ck (a1 + (nI 1)) 960 <| ts_nw (ts_up σ3 6 7 ((a1 + (nI 1)).toNatClampNeg) (nI 0)) fun σ5 => RPi a1 σ5) else ts_bi (F_X5_number [.inr (.inr (.inl (6, 0))), .inl (nI 0), .inl (nI 4095)] σ3) fun x15 σ14 => ts_ck (a1 + (nI 1)) 960 <| ts_nw (ts_up σ14 6 7 ((a1 + (nI 1)).toNatClampNeg) x15) fun σ16 => RPi a1 σ16
theorem rp_e (a1 : Int32) (σ : ts_S) : F_X5_readPerson [.inr (.inr (.inl (6, 0))), .inl a1] σ = if (nI 6) ≤ (σ 6 0 16) then ts_bv (F_X5_must [.inr (.inr (.inl (6, 0))), .inl (nI 0)] σ) (RPb a1) else ts_bv (F_X5_must [.inr (.inr (.inl (6, 0))), .inl (nI 1)] σ) (RPb a1) := by
  rw [e_X5_readPerson]; rfl
theorem rpi_0 {σ : ts_S} {z f : Nat → Int32} {a : Nat} (ha : a + 8 ≤ 960) (h : F_X5_takesWord [.inr (.inr (.inl (6, 0))), .inr (.inr (.inr 12))] (mz σ z f) = some (some (.inl (nI 0)), mz σ z f)) : RPi (nI a) (mz σ z f) = some (none, mz σ (upd z 16 (z 16 + nI 1)) (upd f (a + 2) (-1))) := by
  unfold RPi
  rw [h, bi_s, if_pos rfl, nI_add, ck_n _ (by omega) (by omega), nw_s, nI_clamp (by omega), mz_w, nw_s, mz_r, mz_u]
theorem told_person {f ρ : Nat → Int32} {a : Nat} {x w : Int32} (W : WR ρ) (h6 : nP ρ < 6) (ha : a + 8 ≤ 960) (f0 : f a = nI 10) (f1 : f (a + 1) = w) (f2 : f (a + 2) = x) : IV f a ρ (upd (S_pn ρ w) (px (nP ρ) 1) x) := by
  intro σ hf h1
  have g0 : σ 6 7 a = nI 10 := (hf 0 (by omega)).trans f0
  have g1 : σ 6 7 (a + 1) = w := (hf 1 (by omega)).trans f1
  have g2 : σ 6 7 (a + 2) = x := (hf 2 (by omega)).trans f2
  have c := m_oneMore w σ (by rw [h1]; exact W) (by rw [h1]; exact h6)
  rw [h1] at c
  have q : px (nP ρ) 1 < 111 := px_lt h6 (by omega)
  rw [e_X5_isToldSo, nI_add, nI_add, ck_n _ (show a + 1 < 960 by omega) (by omega), ni_s, ck_n _ (show a + 2 < 960 by omega) (by omega), ni_s, ck_n _ (show a < 960 by omega) (by omega), nI_clamp (show a + 1 < 2 ^ 31 by omega), nI_clamp (show a + 2 < 2 ^ 31 by omega), nI_clamp (show a < 2 ^ 31 by omega), g0, g1, g2, if_pos rfl, c, bi_s, m_personAt, bi_s, ck_n _ q (by omega), nw_s, nI_clamp (by omega), mr_up, mr_rd, mr_mr]
theorem pn_has (ρ : Nat → Int32) (v w : Int32) : upd (S_pn ρ v) (px (nP ρ) 0) w = S_pn ρ w := by
  unfold S_pn
  rw [upd_c _ _ _ (show ¬ 3 = px (nP ρ) 0 by unfold px; omega), upd_c _ _ _ (show ¬ px (nP ρ) 2 = px (nP ρ) 0 by unfold px; omega), upd_c _ _ _ (show ¬ px (nP ρ) 1 = px (nP ρ) 0 by unfold px; omega), upd_uu]
theorem in_le {v s : Nat} (hv : v ≤ 10000) (hs : s ≤ 8) : nI v ≤ nI s - nI 1 ↔ v < s := by
  by_cases q : s = 0
  · subst q
    have e : nI 0 - nI 1 = -1 := by decide
    rw [e]
    refine ⟨fun y => ?_, fun y => by omega⟩
    exact absurd (Int32.le_trans (nge (n := v) (by omega)) y) m1ge
  · rw [pk_sub (by omega)]
    refine ⟨fun y => ?_, fun y => nI_le (by omega) (by omega)⟩
    have := (nI_leI (by omega) (by omega)).mp y
    omega
theorem j_in {σ : ts_S} {k n b v : Nat} {y : Nat → Int32} {τ : Nat → Nat → Int32} {z f ρ : Nat → Int32} (hB : TB (σ 4 1) k) (hn : n < 120) (W : WR ρ) (h6 : nP ρ < 6) (hv : v < 4096) (hb : b ≤ k) (Y : YT y (σ 4 1) k b) (Z : ZT z (σ 4 1) k b) (e11 : z 11 = nI 0) (e15 : z 15 = nI (nS ρ)) (e16 : z 16 = nI (nP ρ)) (f0 : f (8 * n) = nI 10) (f1 : f (8 * n + 1) = nI v) (R : RQ τ (S_pn ρ (nI v))) : ∃ x y' τ' z' f', (ts_bi (F_X3_isWord [.inr (.inr (.inl (4, 0))), .inr (.inr (.inr 12))] (cs σ y τ)) fun x7 σ6 => if x7 = nI 0 then some (some (.inl (nI 1)), σ6) else ts_bv (F_X3_readToken [.inr (.inr (.inl (4, 0)))] σ6) fun σ8 => ts_bi (F_X3_isNumber [.inr (.inr (.inl (4, 0))), .inl ((σ8 2 0 4) - (nI 1))] σ8) fun x10 σ9 => if x10 = nI 0 then some (some (.inl (nI 0)), σ9) else ts_ck (nI (nP ρ)) 6 <| ts_nw (ts_up σ9 2 8 ((nI (nP ρ)).toNatClampNeg) (σ9 4 0 5)) fun σ11 => ts_bv (F_X3_readToken [.inr (.inr (.inl (4, 0)))] σ11) fun σ12 => some (some (.inl (nI 1)), σ12)) = some (some (.inl (nI x)), cs σ y' τ') ∧ (∀ σ' : ts_S, (∀ j, j < k → σ' 6 5 j = σ 4 1 j) → RPi (nI (8 * n)) (mz σ' z f) = some (none, mz σ' z' f')) ∧ OUT (σ 4 1) k b n z f ρ x y' τ' z' f' := by
  have hc := S_pn_c W h6 (nI v)
  have hp : nP ρ < nP (S_pn ρ (nI v)) := by omega
  have hS8 := W.2.1.2
  by_cases w : WD (σ 4 1) k b 12
  · obtain ⟨y1, t1, Y1⟩ := c_tok τ hB hb Y
    have nb := T_n_b (σ 4 1) hb
    have g : ∀ σ' : ts_S, (∀ j, j < k → σ' 6 5 j = σ 4 1 j) → RPi (nI (8 * n)) (mz σ' z f) = ts_bi (F_X5_number [.inr (.inr (.inl (6, 0))), .inl (nI 0), .inl (nI (nS ρ) - nI 1)] (mz σ' (zt z (σ 4 1) k (T_n (σ 4 1) k b)) f)) fun x11 σ10 => ts_ck (nI (8 * n) + (nI 2)) 960 <| ts_nw (ts_up σ10 6 7 ((nI (8 * n) + (nI 2)).toNatClampNeg) x11) fun σ12 => ts_nw (ts_up σ12 6 0 16 ((σ12 6 0 16) + (nI 1))) fun σ13 => some (none, σ13) := by
      intro σ' hm
      unfold RPi
      rw [m_tw_t (by omega) hB hm hb Z e11 w, bi_s, if_neg n10, mz_r, zt_o _ _ _ _ (by omega), e15]
    have t4 : τ 0 4 = nI (nS ρ) := by rw [R.2.1.2.1, R.1.2.1.1, hc.1]
    generalize hb1 : T_n (σ 4 1) k b = b1 at nb Y1 g
    have Z1 : ZT (zt z (σ 4 1) k b1) (σ 4 1) k b1 := zt_Z Z.1
    have o1 : ∀ i, ¬ (7 ≤ i ∧ i ≤ 10) → zt z (σ 4 1) k b1 i = z i := fun i hi => zt_o _ _ _ _ hi
    generalize hz1 : zt z (σ 4 1) k b1 = z1 at Z1 o1 g
    have z11 : z1 11 = nI 0 := by rw [o1 _ (by omega)]; exact e11
    have vb := T_v_b (σ 4 1) k b1
    by_cases N : T_t (σ 4 1) k b1 = 2 ∧ nI (T_v (σ 4 1) k b1) ≤ nI (nS ρ) - nI 1
    · have vs : T_v (σ 4 1) k b1 < nS ρ := (in_le vb hS8).mp N.2
      have R1 := RQ_px R hp (f := 1) (by omega) (v := nI (T_v (σ 4 1) k b1)) (WR_in R.1 hp (Or.inr ⟨T_v (σ 4 1) k b1, by rw [hc.1]; exact vs, rfl⟩))
      obtain ⟨y2, t2, Y2⟩ := c_tok (qu τ 8 (nP ρ) (nI (T_v (σ 4 1) k b1))) hB nb.2.1 Y1
      have nb2 := T_n_b (σ 4 1) nb.2.1
      refine ⟨1, y2, qu τ 8 (nP ρ) (nI (T_v (σ 4 1) k b1)), upd (zt z1 (σ 4 1) k (T_n (σ 4 1) k b1)) 16 (nI (nP ρ + 1)), upd f (8 * n + 2) (nI (T_v (σ 4 1) k b1)), ?_, fun σ' hm => ?_, fun i hi => by rw [upd_ne _ _ (by omega), zt_o _ _ _ _ (by omega), o1 _ (by omega)], fun i hi => by rw [upd_ne _ _ (by omega)], Or.inl ⟨rfl, T_n (σ 4 1) k b1, upd (S_pn ρ (nI v)) (px (nP ρ) 1) (nI (T_v (σ 4 1) k b1)), by omega, nb2.2.1, Y2, ZT_u (zt_Z Z1.1) (by omega) _, by rw [upd_ne _ _ (by omega), zt_o _ _ _ _ (by omega)]; exact z11, by rw [upd_ne _ _ (by omega), zt_o _ _ _ _ (by omega), o1 _ (by omega)], ?_, ?_, R1, ?_⟩⟩
      · rw [c_isWord_t (by omega) hB.1 hb Y w, bi_s, if_neg n10, t1, bv_s, cs_2, t4, c_num_t Y1 N, bi_s, if_neg n10, ck_n _ h6 (by omega), nw_s, nI_clamp (by omega), cs_r, Y1.2.2.2.2 N.1, cs_q, t2, bv_s]
      · rw [g σ' hm, m_num_t hB hm nb.2.1 Z1 z11 N, bi_s, nI_add, ck_n _ (by omega) (by omega), nw_s, nI_clamp (by omega), mz_w, nw_s, mz_r, zt_o _ _ _ _ (by omega), o1 _ (by omega), e16, nI_add, mz_u]
      · rw [upd_ne _ _ (by omega), zt_o _ _ _ _ (by omega), o1 _ (by omega), e15, nS_upd (by unfold px; omega), hc.1]
      · rw [upd_at, nP_upd (by unfold px; omega), hc.2]
      · exact told_person W h6 (by omega) (by rw [upd_ne _ _ (by omega)]; exact f0) (by rw [upd_ne _ _ (by omega)]; exact f1) (upd_at _ _ _)
    · refine ⟨0, y1, τ, upd (upd z1 11 (nI 1)) 16 (nI (nP ρ + 1)), upd f (8 * n + 2) (z1 10), ?_, fun σ' hm => ?_, fun i hi => by rw [upd_ne _ _ (by omega), upd_ne _ _ (by omega), o1 _ (by omega)], fun i hi => by rw [upd_ne _ _ (by omega)], Or.inr (Or.inl ⟨rfl, b1, nb.2.1, Y1.2.2.1, by rw [upd_ne _ _ (by omega), upd_ne _ _ (by omega)]; exact Z1.2.2.1, by rw [upd_ne _ _ (by omega), upd_at]⟩)⟩
      · rw [c_isWord_t (by omega) hB.1 hb Y w, bi_s, if_neg n10, t1, bv_s, cs_2, t4, c_num_f Y1 N, bi_s, if_pos rfl]
      · rw [g σ' hm, m_num_f Z1 z11 N, bi_s, nI_add, ck_n _ (by omega) (by omega), nw_s, nI_clamp (by omega), mz_w, nw_s, mz_r, upd_ne _ _ (show ¬ 16 = 11 by omega), o1 16 (by omega), e16, nI_add, mz_u]
  · refine ⟨1, y, τ, upd z 16 (nI (nP ρ + 1)), upd f (8 * n + 2) (-1), ?_, fun σ' hm => ?_, fun i hi => by rw [upd_ne _ _ (by omega)], fun i hi => by rw [upd_ne _ _ (by omega)], Or.inl ⟨rfl, b, S_pn ρ (nI v), by omega, hb, Y, ZT_u Z (by omega) _, by rw [upd_ne _ _ (by omega)]; exact e11, by rw [upd_ne _ _ (by omega)], ?_, ?_, R, ?_⟩⟩
    · rw [c_isWord_f (by omega) hB.1 hb Y w, bi_s, if_pos rfl]
    · rw [rpi_0 (by omega) (m_tw_f (by omega) hB hm hb Z e11 w), e16, nI_add]
    · rw [upd_ne _ _ (by omega), e15, hc.1]
    · rw [upd_at, hc.2]
    · have T := told_person (f := upd f (8 * n + 2) (-1)) (a := 8 * n) (w := nI v) W h6 (by omega) (by rw [upd_ne _ _ (by omega)]; exact f0) (by rw [upd_ne _ _ (by omega)]; exact f1) (upd_at _ _ _)
      rw [z_same (z := S_pn ρ (nI v)) (j := px (nP ρ) 1) (x := -1) (S_pn_f ρ (nI v)).2.1] at T
      exact T
theorem OUT_m {h : Nat → Int32} {k b b1 n : Nat} {z z1 f f1 ρ : Nat → Int32} {x : Nat} {y' : Nat → Int32} {τ' : Nat → Nat → Int32} {z' f' : Nat → Int32} (O : OUT h k b1 n z1 f1 ρ x y' τ' z' f') (hb : b ≤ b1) (hz : KP z z1) (h14 : z1 14 = z 14) (hf : ∀ i, i < 8 * n → f1 i = f i) : OUT h k b n z f ρ x y' τ' z' f' := by
  obtain ⟨k1, k2, k3⟩ := O
  refine ⟨fun i hi => (k1 i hi).trans (hz i hi), fun i hi => (k2 i hi).trans (hf i hi), ?_⟩
  rcases k3 with ⟨e, b', ρ', q1, q2, q3, q4, q5, q6, q7⟩ | q | q
  · exact Or.inl ⟨e, b', ρ', by omega, q2, q3, q4, q5, q6.trans h14, q7⟩
  · exact Or.inr (Or.inl q)
  · exact Or.inr (Or.inr q)
theorem j_person {σ : ts_S} {k n b : Nat} {y : Nat → Int32} {τ : Nat → Nat → Int32} {z f ρ : Nat → Int32} (hB : TB (σ 4 1) k) (hn : n < 120) (hb : b ≤ k) (Y : YT y (σ 4 1) k b) (Z : ZT z (σ 4 1) k b) (e11 : z 11 = nI 0) (e15 : z 15 = nI (nS ρ)) (e16 : z 16 = nI (nP ρ)) (R : RQ τ ρ) : ∃ x y' τ' z' f', F_X3_readPerson [.inr (.inr (.inl (4, 0))), .inr (.inr (.inl (2, 0)))] (cs σ y τ) = some (some (.inl (nI x)), cs σ y' τ') ∧ (∀ σ' : ts_S, (∀ j, j < k → σ' 6 5 j = σ 4 1 j) → F_X5_readPerson [.inr (.inr (.inl (6, 0))), .inl (nI (8 * n))] (mz σ' z f) = some (none, mz σ' z' f')) ∧ OUT (σ 4 1) k b n z f ρ x y' τ' z' f' := by
  have W := R.1
  have hP6 := W.2.2.1.2
  by_cases h6 : nP ρ < 6
  · obtain ⟨τ1, a1, R1⟩ := c_addPerson hq2 (w := 0) (by omega) (cs σ y τ) R h6
    rw [cs_g] at a1
    have hc := S_pn_c W h6 (nI 0)
    have nb := T_n_b (σ 4 1) hb
    obtain ⟨y1, t1, Y1⟩ := c_tok τ1 hB hb Y
    have mf : ∀ σ' : ts_S, (∀ j, j < k → σ' 6 5 j = σ 4 1 j) → F_X5_readPerson [.inr (.inr (.inl (6, 0))), .inl (nI (8 * n))] (mz σ' z f) = ts_bi (F_X5_takesWord [.inr (.inr (.inl (6, 0))), .inr (.inr (.inr 11))] (mz σ' (zt z (σ 4 1) k (T_n (σ 4 1) k b)) (upd f (8 * n) (nI 10)))) fun x4 σ3 => if x4 = nI 0 then (ts_ck (nI (8 * n) + (nI 1)) 960 <| ts_nw (ts_up σ3 6 7 ((nI (8 * n) + (nI 1)).toNatClampNeg) (nI 0)) fun σ5 => RPi (nI (8 * n)) σ5) else ts_bi (F_X5_number [.inr (.inr (.inl (6, 0))), .inl (nI 0), .inl (nI 4095)] σ3) fun x15 σ14 => ts_ck (nI (8 * n) + (nI 1)) 960 <| ts_nw (ts_up σ14 6 7 ((nI (8 * n) + (nI 1)).toNatClampNeg) x15) fun σ16 => RPi (nI (8 * n)) σ16 := by
      intro σ' hm
      rw [rp_e, mz_r, e16, if_neg (nI_ge (by omega) (by omega)), m_must_t hB hm hb Z e11, bv_s]
      unfold RPb
      rw [ck_n _ (by omega) (by omega), nw_s, nI_clamp (by omega), mz_w]
    have cf : ∀ o, (ts_bi (F_X3_isWord [.inr (.inr (.inl (4, 0))), .inr (.inr (.inr 11))] (cs σ y1 τ1)) fun x5 σ4 => if x5 = nI 0 then (ts_bi (F_X3_isWord [.inr (.inr (.inl (4, 0))), .inr (.inr (.inr 12))] σ4) fun x7 σ6 => if x7 = nI 0 then some (some (.inl (nI 1)), σ6) else ts_bv (F_X3_readToken [.inr (.inr (.inl (4, 0)))] σ6) fun σ8 => ts_bi (F_X3_isNumber [.inr (.inr (.inl (4, 0))), .inl ((σ8 2 0 4) - (nI 1))] σ8) fun x10 σ9 => if x10 = nI 0 then some (some (.inl (nI 0)), σ9) else ts_ck (nI (nP ρ)) 6 <| ts_nw (ts_up σ9 2 8 ((nI (nP ρ)).toNatClampNeg) (σ9 4 0 5)) fun σ11 => ts_bv (F_X3_readToken [.inr (.inr (.inl (4, 0)))] σ11) fun σ12 => some (some (.inl (nI 1)), σ12)) else ts_bv (F_X3_readToken [.inr (.inr (.inl (4, 0)))] σ4) fun σ13 => ts_bi (F_X3_isNumber [.inr (.inr (.inl (4, 0))), .inl (nI 4095)] σ13) fun x15 σ14 => if x15 = nI 0 then some (some (.inl (nI 0)), σ14) else ts_ck (nI (nP ρ)) 6 <| ts_nw (ts_up σ14 2 7 ((nI (nP ρ)).toNatClampNeg) (σ14 4 0 5)) fun σ16 => ts_bv (F_X3_readToken [.inr (.inr (.inl (4, 0)))] σ16) fun σ17 => ts_bi (F_X3_isWord [.inr (.inr (.inl (4, 0))), .inr (.inr (.inr 12))] σ17) fun x7 σ6 => if x7 = nI 0 then some (some (.inl (nI 1)), σ6) else ts_bv (F_X3_readToken [.inr (.inr (.inl (4, 0)))] σ6) fun σ8 => ts_bi (F_X3_isNumber [.inr (.inr (.inl (4, 0))), .inl ((σ8 2 0 4) - (nI 1))] σ8) fun x10 σ9 => if x10 = nI 0 then some (some (.inl (nI 0)), σ9) else ts_ck (nI (nP ρ)) 6 <| ts_nw (ts_up σ9 2 8 ((nI (nP ρ)).toNatClampNeg) (σ9 4 0 5)) fun σ11 => ts_bv (F_X3_readToken [.inr (.inr (.inl (4, 0)))] σ11) fun σ12 => some (some (.inl (nI 1)), σ12)) = o → F_X3_readPerson [.inr (.inr (.inl (4, 0))), .inr (.inr (.inl (2, 0)))] (cs σ y τ) = o := by
      intro o ho
      rw [e_X3_readPerson, a1, bi_s, if_neg (nm (by omega)), t1, bv_s]
      exact ho
    generalize hb1 : T_n (σ 4 1) k b = b1 at nb Y1 mf
    have Z1 : ZT (zt z (σ 4 1) k b1) (σ 4 1) k b1 := zt_Z Z.1
    have o1 : ∀ i, ¬ (7 ≤ i ∧ i ≤ 10) → zt z (σ 4 1) k b1 i = z i := fun i hi => zt_o _ _ _ _ hi
    generalize hz1 : zt z (σ 4 1) k b1 = z1 at Z1 o1 mf
    have z11 : z1 11 = nI 0 := by rw [o1 _ (by omega)]; exact e11
    by_cases w : WD (σ 4 1) k b1 11
    · obtain ⟨y2, t2, Y2⟩ := c_tok τ1 hB nb.2.1 Y1
      have nb2 := T_n_b (σ 4 1) nb.2.1
      have mg : ∀ σ' : ts_S, (∀ j, j < k → σ' 6 5 j = σ 4 1 j) → F_X5_readPerson [.inr (.inr (.inl (6, 0))), .inl (nI (8 * n))] (mz σ' z f) = ts_bi (F_X5_number [.inr (.inr (.inl (6, 0))), .inl (nI 0), .inl (nI 4095)] (mz σ' (zt z1 (σ 4 1) k (T_n (σ 4 1) k b1)) (upd f (8 * n) (nI 10)))) fun x15 σ14 => ts_ck (nI (8 * n) + (nI 1)) 960 <| ts_nw (ts_up σ14 6 7 ((nI (8 * n) + (nI 1)).toNatClampNeg) x15) fun σ16 => RPi (nI (8 * n)) σ16 := by
        intro σ' hm
        rw [mf σ' hm, m_tw_t (by omega) hB hm nb.2.1 Z1 z11 w, bi_s, if_neg n10]
      generalize hb2 : T_n (σ 4 1) k b1 = b2 at nb2 Y2 mg
      have Z2 : ZT (zt z1 (σ 4 1) k b2) (σ 4 1) k b2 := zt_Z Z1.1
      have o2 : ∀ i, ¬ (7 ≤ i ∧ i ≤ 10) → zt z1 (σ 4 1) k b2 i = z i := fun i hi => by rw [zt_o _ _ _ _ hi, o1 _ hi]
      generalize hz2 : zt z1 (σ 4 1) k b2 = z2 at mg Z2 o2
      have z211 : z2 11 = nI 0 := by rw [o2 _ (by omega)]; exact e11
      have vb := T_v_b (σ 4 1) k b2
      by_cases N : T_t (σ 4 1) k b2 = 2 ∧ nI (T_v (σ 4 1) k b2) ≤ nI 4095
      · have v12 : T_v (σ 4 1) k b2 < 4096 := by
          have := (nI_leI (by omega) (by omega)).mp N.2
          omega
        have R2 := RQ_px R1 (p := nP ρ) (f := 0) (by omega) (by omega) (v := nI (T_v (σ 4 1) k b2)) (WR_has R1.1 (by omega) ⟨T_v (σ 4 1) k b2, v12, rfl⟩)
        rw [pn_has] at R2
        obtain ⟨y3, t3, Y3⟩ := c_tok (qu τ1 7 (nP ρ) (nI (T_v (σ 4 1) k b2))) hB nb2.2.1 Y2
        have nb3 := T_n_b (σ 4 1) nb2.2.1
        obtain ⟨x, y4, τ4, z4, f4, r1, r2, r3⟩ := j_in (z := zt z2 (σ 4 1) k (T_n (σ 4 1) k b2)) (f := upd (upd f (8 * n) (nI 10)) (8 * n + 1) (nI (T_v (σ 4 1) k b2))) hB hn W h6 v12 nb3.2.1 Y3 (zt_Z Z2.1) (by rw [zt_o _ _ _ _ (by omega)]; exact z211) (by rw [zt_o _ _ _ _ (by omega), o2 _ (by omega)]; exact e15) (by rw [zt_o _ _ _ _ (by omega), o2 _ (by omega)]; exact e16) (by rw [upd_ne _ _ (by omega), upd_at]) (upd_at _ _ _) R2
        refine ⟨x, y4, τ4, z4, f4, cf _ ?_, fun σ' hm => ?_, OUT_m r3 (by omega) (fun i hi => by rw [zt_o _ _ _ _ (by omega), o2 _ (by omega)]) (by rw [zt_o _ _ _ _ (by omega), o2 _ (by omega)]) (fun i hi => by rw [upd_ne _ _ (by omega), upd_ne _ _ (by omega)])⟩
        · rw [c_isWord_t (by omega) hB.1 nb.2.1 Y1 w, bi_s, if_neg n10, t2, bv_s, c_num_t Y2 N, bi_s, if_neg n10, ck_n _ h6 (by omega), nw_s, nI_clamp (by omega), cs_r, Y2.2.2.2.2 N.1, cs_q, t3, bv_s]
          rw [nI_clamp (by omega)] at r1
          exact r1
        · rw [mg σ' hm, m_num_t hB hm nb2.2.1 Z2 z211 N, bi_s, nI_add, ck_n _ (by omega) (by omega), nw_s, nI_clamp (by omega), mz_w]
          exact r2 σ' hm
      · refine ⟨0, y2, τ1, upd (upd z2 11 (nI 1)) 16 (upd z2 11 (nI 1) 16 + nI 1), upd (upd (upd f (8 * n) (nI 10)) (8 * n + 1) (z2 10)) (8 * n + 2) (-1), cf _ ?_, fun σ' hm => ?_, fun i hi => by rw [upd_ne _ _ (by omega), upd_ne _ _ (by omega), o2 _ (by omega)], fun i hi => by rw [upd_ne _ _ (by omega), upd_ne _ _ (by omega), upd_ne _ _ (by omega)], Or.inr (Or.inl ⟨rfl, b2, nb2.2.1, Y2.2.2.1, by rw [upd_ne _ _ (by omega), upd_ne _ _ (by omega)]; exact Z2.2.2.1, by rw [upd_ne _ _ (by omega), upd_at]⟩)⟩
        · rw [c_isWord_t (by omega) hB.1 nb.2.1 Y1 w, bi_s, if_neg n10, t2, bv_s, c_num_f Y2 N, bi_s, if_pos rfl]
        · rw [mg σ' hm, m_num_f Z2 z211 N, bi_s, nI_add, ck_n _ (by omega) (by omega), nw_s, nI_clamp (by omega), mz_w, rpi_0 (by omega) (m_tw_w 12 (by omega) (upd_at _ _ _))]
    · obtain ⟨x, y4, τ4, z4, f4, r1, r2, r3⟩ := j_in (z := z1) (f := upd (upd f (8 * n) (nI 10)) (8 * n + 1) (nI 0)) (v := 0) hB hn W h6 (by omega) nb.2.1 Y1 Z1 z11 (by rw [o1 _ (by omega)]; exact e15) (by rw [o1 _ (by omega)]; exact e16) (by rw [upd_ne _ _ (by omega), upd_at]) (upd_at _ _ _) R1
      refine ⟨x, y4, τ4, z4, f4, cf _ ?_, fun σ' hm => ?_, OUT_m r3 nb.1 (fun i hi => o1 _ (by omega)) (o1 _ (by omega)) (fun i hi => by rw [upd_ne _ _ (by omega), upd_ne _ _ (by omega)])⟩
      · rw [c_isWord_f (by omega) hB.1 nb.2.1 Y1 w, bi_s, if_pos rfl]; exact r1
      · rw [mf σ' hm, m_tw_f (by omega) hB hm nb.2.1 Z1 z11 w, bi_s, if_pos rfl, nI_add, ck_n _ (by omega) (by omega), nw_s, nI_clamp (by omega), mz_w]
        exact r2 σ' hm
  · refine ⟨0, y, τ, upd (upd z 11 (nI 1)) 16 (upd z 11 (nI 1) 16 + nI 1), upd (upd (upd f (8 * n) (nI 10)) (8 * n + 1) (nI 0)) (8 * n + 2) (-1), ?_, fun σ' hm => ?_, fun i hi => by rw [upd_ne _ _ (by omega), upd_ne _ _ (by omega)], fun i hi => by rw [upd_ne _ _ (by omega), upd_ne _ _ (by omega), upd_ne _ _ (by omega)], Or.inr (Or.inl ⟨rfl, b, hb, Y.2.2.1, by rw [upd_ne _ _ (by omega), upd_ne _ _ (by omega)]; exact Z.2.2.1, by rw [upd_ne _ _ (by omega), upd_at]⟩)⟩
    · rw [e_X3_readPerson, c_addPerson_n hq2 _ (cs σ y τ) R h6, bi_s, if_pos rfl]
    · rw [rp_e, mz_r, e16, if_pos (nI_le (by omega) (by omega)), m_must_f e11, bv_s]
      unfold RPb
      rw [ck_n _ (by omega) (by omega), nw_s, nI_clamp (by omega), mz_w, m_tw_w 11 (by omega) (upd_at _ _ _), bi_s, if_pos rfl, nI_add, ck_n _ (by omega) (by omega), nw_s, nI_clamp (by omega), mz_w, rpi_0 (by omega) (m_tw_w 12 (by omega) (upd_at _ _ _))]
