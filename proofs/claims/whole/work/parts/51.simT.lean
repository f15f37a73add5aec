/-! the whole text -/
def IT (f : Nat → Int32) : Nat → (Nat → Int32) → (Nat → Int32) → Prop
  | 0, ρ0, ρ => ρ = ρ0
  | n + 1, ρ0, ρ => ∃ ρ1, IT f n ρ0 ρ1 ∧ IV f (8 * n) ρ1 ρ
theorem IV_c {f f' : Nat → Int32} {a : Nat} {ρ ρ' : Nat → Int32} (h : IV f a ρ ρ') (e : ∀ j, j < 8 → f' (a + j) = f (a + j)) : IV f' a ρ ρ' := fun σ h1 h2 => h σ (fun j hj => (h1 j hj).trans (e j hj)) h2
theorem IT_c {f f' : Nat → Int32} {ρ0 : Nat → Int32} : ∀ n (ρ : Nat → Int32), (∀ i, i < 8 * n → f' i = f i) → IT f n ρ0 ρ → IT f' n ρ0 ρ
  | 0, ρ, e, h => h
  | n + 1, ρ, e, h => by
    obtain ⟨ρ1, h1, h2⟩ := h
    exact ⟨ρ1, IT_c n ρ1 (fun i hi => e i (by omega)) h1, IV_c h2 (fun j hj => e _ (by omega))⟩
theorem m_replay {f ρ0 : Nat → Int32} {N : Nat} (hN : N ≤ 120) (σ : ts_S) (hf : ∀ i, i < 8 * N → σ 6 7 i = f i) (h1 : σ 6 1 = ρ0) (e14 : σ 6 0 14 = nI N) : ∀ j (ρ : Nat → Int32), j ≤ N → IT f j ρ0 ρ → H_X5_text_121 (nI 0) σ = H_X5_text_121 (nI j) (mr σ ρ)
  | 0, ρ, hj, h => by
    have : ρ = ρ0 := h
    subst this
    rw [← h1, mr_id]
  | j + 1, ρ, hj, h => by
    obtain ⟨ρ1, i1, i2⟩ := h
    have e : (mr σ ρ1) 6 0 14 = nI N := e14
    rw [m_replay hN σ hf h1 e14 j ρ1 (by omega) i1, h_X5_text_121, e, if_neg (nI_ge (by omega) (by omega)), pk_mul, i2 (mr σ ρ1) (fun i hi => hf _ (by omega)) rfl, bv_s, nI_add, mr_mr]
noncomputable def TF (σ : ts_S) : Option ts_A := ts_nw (ts_up σ 6 0 6 (nI 0)) fun σ4 => if (σ4 6 0 11) = nI 0 then H_X5_text_121 (nI 0) σ4 else some (some (.inl ((-1) - (σ4 6 0 7))), σ4)
noncomputable def TE (σ : ts_S) : Option ts_A := if (σ 6 0 9) = nI 0 then ts_bv (F_X5_must [.inr (.inr (.inl (6, 0))), .inl (nI 1)] σ) TF else ts_bv (F_X5_must [.inr (.inr (.inl (6, 0))), .inl (nI 0)] σ) TF
theorem t43 (σ : ts_S) : H_X5_text_43 σ = if (σ 6 0 11) = nI 0 then (if (σ 6 0 9) = (nI 3) then (ts_ck (σ 6 0 7) 120 <| if (σ 6 5 ((σ 6 0 7).toNatClampNeg)) = (nI 59) then ts_bv (F_X5_must [.inr (.inr (.inl (6, 0))), .inl (nI 1)] σ) fun σ1 => ts_bv (F_X5_readItem [.inr (.inr (.inl (6, 0)))] σ1) H_X5_text_43 else TE σ) else TE σ) else TE σ := by
  rw [h_X5_text_43]; rfl
theorem te_w {σ : ts_S} {z f : Nat → Int32} (e11 : z 11 = nI 1) : TE (mz σ z f) = some (some (.inl ((-1) - z 7)), mz σ (upd z 6 (nI 0)) f) := by
  unfold TE
  rw [m_must_w e11, m_must_w e11, bv_s, ite_self]
  unfold TF
  rw [nw_s, mz_u, mz_r, upd_ne _ _ (by omega), e11, if_neg n10, mz_r, upd_ne _ _ (by omega)]
theorem te_f {σ : ts_S} {z f : Nat → Int32} (e11 : z 11 = nI 0) (e9 : ¬ z 9 = nI 0) : TE (mz σ z f) = some (some (.inl ((-1) - z 7)), mz σ (upd (upd z 11 (nI 1)) 6 (nI 0)) f) := by
  unfold TE
  rw [mz_r, if_neg e9, m_must_f e11, bv_s]
  unfold TF
  rw [nw_s, mz_u, mz_r, upd_ne _ _ (by omega), upd_at, if_neg n10, mz_r, upd_ne _ _ (by omega), upd_ne _ _ (by omega)]
theorem ng : ∀ b, b < 121 → (-1 : Int32) - nI b < nI 0 := by decide
theorem sort_e {h z : Nat → Int32} {k b : Nat} (Z : ZT z h k b) : (z 9 = nI 0 ↔ T_t h k b = 0) ∧ (z 9 = nI 3 ↔ (T_t h k b = 3 ∨ T_t h k b = 4)) := by
  have tc := T_t_c h k b
  rw [Z.2.1]
  by_cases q : T_t h k b = 4
  · rw [if_pos q]
    exact ⟨⟨fun y => absurd y (by decide), fun y => by omega⟩, ⟨fun _ => Or.inr q, fun _ => rfl⟩⟩
  · rw [if_neg q]
    refine ⟨⟨fun y => (nI_eq (by omega) (by omega)).mp y, fun y => by rw [y]⟩, ⟨fun y => Or.inl ((nI_eq (by omega) (by omega)).mp y), fun y => ?_⟩⟩
    rcases y with y | y
    · rw [y]
    · omega
theorem j_items {σ : ts_S} {k : Nat} {ρ0 : Nat → Int32} (hB : TB (σ 4 1) k) : ∀ t n b (y : Nat → Int32) (τ : Nat → Nat → Int32) (z f ρ : Nat → Int32), n + t = 121 → n ≤ b → b ≤ k → YT y (σ 4 1) k b → ZT z (σ 4 1) k b → z 11 = nI 0 → z 14 = nI n → z 15 = nI (nS ρ) → z 16 = nI (nP ρ) → RQ τ ρ → IT f n ρ0 ρ → ∃ r y' τ' z' f' ρ', H_X3_readItems_11 (nI (n + 1)) (cs σ y τ) = some (some (.inl r), cs σ y' τ') ∧ (∀ σ' : ts_S, (∀ j, j < k → σ' 6 5 j = σ 4 1 j) → σ' 6 1 = ρ0 → ts_bv (F_X5_readItem [.inr (.inr (.inl (6, 0)))] (mz σ' z f)) H_X5_text_43 = some (some (.inl r), mr (mz σ' z' f') ρ')) ∧ z' 3 = z 3 ∧ z' 6 = nI 0 ∧ ((r < nI 0 ∧ ρ' = ρ0) ∨ (¬ r < nI 0 ∧ RQ τ' ρ'))
  | 0, n, b, y, τ, z, f, ρ, e, hn, hb, Y, Z, e11, e14, e15, e16, R, T => by have := hB.1; omega
  | t + 1, n, b, y, τ, z, f, ρ, e, hn, hb, Y, Z, e11, e14, e15, e16, R, T => by
    have hk := hB.1
    have mi : ∀ (σ' : ts_S) (z f : Nat → Int32), σ' 6 1 = ρ0 → mr (mz σ' z f) ρ0 = mz σ' z f := fun σ' z f h => by rw [← h]; exact mr_id (mz σ' z f)
    by_cases n120 : n = 120
    · have tc := T_t_c (σ 4 1) k b
      have t0 : T_t (σ 4 1) k b = 0 := by
        unfold T_t
        rw [if_pos (by omega)]
      have e1 : upd (upd z 11 (nI 1)) 14 (upd z 11 (nI 1) 14 + nI 1) 11 = nI 1 := by rw [upd_ne _ _ (by omega), upd_at]
      refine ⟨(-1) - nI b, y, τ, upd (upd (upd z 11 (nI 1)) 14 (upd z 11 (nI 1) 14 + nI 1)) 6 (nI 0), f, ρ0, ?_, fun σ' hm h1 => ?_, ?_, upd_at _ _ _, Or.inl ⟨ng b (by omega), rfl⟩⟩
      · rw [h_X3_readItems_11, if_pos (nI_lt (by omega) (by omega)), cs_r, Y.2.2.1]
      · rw [m_item_0 hB hb hm Z e11 e14 (fun j _ q => by have := q.1; omega), bv_s, t43, mz_r, e1, if_neg n10, te_w e1, upd_ne _ _ (by omega), upd_ne _ _ (by omega), Z.2.2.1, mi σ' _ _ h1]
      · rw [upd_ne _ _ (by omega), upd_ne _ _ (by omega), upd_ne _ _ (by omega)]
    · obtain ⟨x, y', τ', z', f', r1, r2, k1, k2, r3⟩ := j_item (f := f) hB hn hb Y Z e11 e14 e15 e16 R
      have c0 : H_X3_readItems_11 (nI (n + 1)) (cs σ y τ) = ts_bi (some (some (.inl (nI x)), cs σ y' τ')) fun x2 σ1 => if x2 = nI 0 then some (some (.inl ((-1) - (σ1 4 0 3))), σ1) else if (σ1 4 0 2) = nI 0 then some (some (.inl (nI (n + 1))), σ1) else if (σ1 4 0 2) = (nI 3) then (ts_bv (F_X3_readToken [.inr (.inr (.inl (4, 0)))] σ1) fun σ3 => H_X3_readItems_11 (nI (n + 1) + (nI 1)) σ3) else some (some (.inl ((-1) - (σ1 4 0 3))), σ1) := by
        rw [h_X3_readItems_11, if_neg (nI_nlt (by omega) (by omega)), r1]
      rcases r3 with ⟨rfl, b', ρ', q1, q2, q3, q4, q5, q6, q7, q8, q9, q10⟩ | ⟨rfl, b', q1, q2, q3, q4⟩ | ⟨rfl, b', q1, q5, q2, q3, q4⟩
      · have tc := T_t_c (σ 4 1) k b'
        have sc := sort_e q4
        have w11 : upd z' 14 (z' 14 + nI 1) 11 = nI 0 := by rw [upd_ne _ _ (by omega)]; exact q5
        have w9 : upd z' 14 (z' 14 + nI 1) 9 = z' 9 := upd_ne _ _ (by omega)
        have w7 : upd z' 14 (z' 14 + nI 1) 7 = nI b' := by rw [upd_ne _ _ (by omega)]; exact q4.2.2.1
        have w14 : upd z' 14 (z' 14 + nI 1) 14 = nI (n + 1) := by rw [upd_at, q6, e14, nI_add]
        have Zw : ZT (upd z' 14 (z' 14 + nI 1)) (σ 4 1) k b' := ZT_u q4 (by omega) _
        have T' : IT f' (n + 1) ρ0 ρ' := ⟨ρ, IT_c n ρ k2 T, q10⟩
        have w15 : upd z' 14 (z' 14 + nI 1) 15 = nI (nS ρ') := by rw [upd_ne _ _ (by omega)]; exact q7
        have w16 : upd z' 14 (z' 14 + nI 1) 16 = nI (nP ρ') := by rw [upd_ne _ _ (by omega)]; exact q8
        have w3 : upd z' 14 (z' 14 + nI 1) 3 = z 3 := by rw [upd_ne _ _ (by omega)]; exact k1 3 (by omega)
        generalize hzw : upd z' 14 (z' 14 + nI 1) = zw at r2 w11 w9 w7 w14 Zw w15 w16 w3
        by_cases t0 : T_t (σ 4 1) k b' = 0
        · have z9 : zw 9 = nI 0 := w9.trans (sc.1.mpr t0)
          refine ⟨nI (n + 1), y', τ', upd (zt zw (σ 4 1) k (T_n (σ 4 1) k b')) 6 (nI 0), f', ρ', ?_, fun σ' hm h1 => ?_, ?_, upd_at _ _ _, Or.inr ⟨nn (by omega), q9⟩⟩
          · rw [c0, bi_s, if_neg n10, cs_r, q3.2.1, t0, if_pos rfl]
          · have rp := m_replay (f := f') (N := n + 1) (by omega) (mz σ' (upd (zt zw (σ 4 1) k (T_n (σ 4 1) k b')) 6 (nI 0)) f') (fun i _ => rfl) h1 (by rw [mz_r, upd_ne _ _ (by omega), zt_o _ _ _ _ (by omega)]; exact w14) (n + 1) ρ' (by omega) T'
            have e14' : (mr (mz σ' (upd (zt zw (σ 4 1) k (T_n (σ 4 1) k b')) 6 (nI 0)) f') ρ') 6 0 14 = nI (n + 1) := by
              show upd (zt zw (σ 4 1) k (T_n (σ 4 1) k b')) 6 (nI 0) 14 = _
              rw [upd_ne _ _ (by omega), zt_o _ _ _ _ (by omega)]; exact w14
            rw [r2 σ' hm, bv_s, t43, mz_r, w11, if_pos rfl, mz_r, z9, if_neg (show ¬ nI 0 = nI 3 by decide)]
            unfold TE
            rw [mz_r, z9, if_pos rfl, m_must_t hB hm q2 Zw w11, bv_s]
            unfold TF
            rw [nw_s, mz_u, mz_r, upd_ne _ _ (by omega), zt_o _ _ _ _ (by omega), w11, if_pos rfl, rp, h_X5_text_121, e14', if_pos (nI_le (by omega) (by omega))]
          · rw [upd_ne _ _ (by omega), zt_o _ _ _ _ (by omega)]; exact w3
        · have z9 : ¬ zw 9 = nI 0 := fun q => t0 (sc.1.mp (w9.symm.trans q))
          by_cases t3 : T_t (σ 4 1) k b' = 3
          · have nb := T_n_b (σ 4 1) q2
            have te := (tc.2.1 t3)
            obtain ⟨y2, t2, Y2⟩ := c_tok τ' hB q2 q3
            obtain ⟨r, y3, τ3, z3, f3, ρ3, g1, g2, g3, g4, g5⟩ := j_items hB t (n + 1) (T_n (σ 4 1) k b') y2 τ' (zt zw (σ 4 1) k (T_n (σ 4 1) k b')) f' ρ' (by omega) (by omega) nb.2.1 Y2 (zt_Z Zw.1) (by rw [zt_o _ _ _ _ (by omega)]; exact w11) (by rw [zt_o _ _ _ _ (by omega)]; exact w14) (by rw [zt_o _ _ _ _ (by omega)]; exact w15) (by rw [zt_o _ _ _ _ (by omega)]; exact w16) q9 T'
            refine ⟨r, y3, τ3, z3, f3, ρ3, ?_, fun σ' hm h1 => ?_, by rw [g3, zt_o _ _ _ _ (by omega)]; exact w3, g4, g5⟩
            · rw [c0, bi_s, if_neg n10, cs_r, q3.2.1, t3, if_neg (show ¬ nI 3 = nI 0 by decide), if_pos rfl, t2, bv_s, nI_add, g1]
            · rw [r2 σ' hm, bv_s, t43, mz_r, w11, if_pos rfl, mz_r, if_pos (w9.trans (sc.2.mpr (Or.inl t3))), mz_r, w7, ck_n _ (by omega) (by omega), mz_5, nI_clamp (by omega), hm b' (by omega), if_pos te.1, m_must_t hB hm q2 Zw w11, bv_s]
              exact g2 σ' hm h1
          · have nk : ¬ nI (T_t (σ 4 1) k b') = nI 0 := ki_eq (by omega) (by omega) t0
            have nk3 : ¬ nI (T_t (σ 4 1) k b') = nI 3 := ki_eq (by omega) (by omega) t3
            refine ⟨(-1) - nI b', y', τ', upd (upd zw 11 (nI 1)) 6 (nI 0), f', ρ0, ?_, fun σ' hm h1 => ?_, ?_, upd_at _ _ _, Or.inl ⟨ng b' (by omega), rfl⟩⟩
            · rw [c0, bi_s, if_neg n10, cs_r, q3.2.1, if_neg nk, if_neg nk3, cs_r, q3.2.2.1]
            · rw [r2 σ' hm, bv_s, t43, mz_r, w11, if_pos rfl, mz_r, mz_r, w7, te_f w11 z9, w7]
              by_cases t4 : T_t (σ 4 1) k b' = 4
              · have te := tc.2.2.1 t4
                rw [if_pos (w9.trans (sc.2.mpr (Or.inr t4))), ck_n _ (by omega) (by omega), mz_5, nI_clamp (by omega), hm b' (by omega), if_neg te.1, mi σ' _ _ h1]
              · rw [if_neg (fun q => by rcases sc.2.mp (w9.symm.trans q) with p | p; exact t3 p; exact t4 p), mi σ' _ _ h1]
            · rw [upd_ne _ _ (by omega), upd_ne _ _ (by omega)]; exact w3
      · have e1 : upd z' 14 (z' 14 + nI 1) 11 = nI 1 := by rw [upd_ne _ _ (by omega)]; exact q4
        refine ⟨(-1) - nI b', y', τ', upd (upd z' 14 (z' 14 + nI 1)) 6 (nI 0), f', ρ0, ?_, fun σ' hm h1 => ?_, by rw [upd_ne _ _ (by omega), upd_ne _ _ (by omega)]; exact k1 3 (by omega), upd_at _ _ _, Or.inl ⟨ng b' (by omega), rfl⟩⟩
        · rw [c0, bi_s, if_pos rfl, cs_r, q2]
        · rw [r2 σ' hm, bv_s, t43, mz_r, e1, if_neg n10, te_w e1, upd_ne _ _ (by omega), q3, mi σ' _ _ h1]
      · have e1 : upd z' 14 (z' 14 + nI 1) 11 = nI 1 := by rw [upd_ne _ _ (by omega)]; exact q4
        refine ⟨(-1) - nI b', y', τ', upd (upd z' 14 (z' 14 + nI 1)) 6 (nI 0), f', ρ0, ?_, fun σ' hm h1 => ?_, by rw [upd_ne _ _ (by omega), upd_ne _ _ (by omega)]; exact k1 3 (by omega), upd_at _ _ _, Or.inl ⟨ng b' (by omega), rfl⟩⟩
        · rw [c0, bi_s, if_neg n10, cs_r, q5, if_neg (by decide), if_neg (by decide), cs_r, q2]
        · rw [r2 σ' hm, bv_s, t43, mz_r, e1, if_neg n10, te_w e1, upd_ne _ _ (by omega), q3, mi σ' _ _ h1]
theorem cs_0 (σ : ts_S) (τ : Nat → Nat → Int32) : va_up σ 2 τ = cs σ (σ 4 0) τ := by
  unfold cs
  rw [up_id, up_id]
theorem mz_0 (σ : ts_S) : mz σ (σ 6 0) (σ 6 7) = σ := by
  unfold mz
  rw [up_id, up_id, up_id]
theorem m_text0 {σ : ts_S} {k : Nat} {h : Nat → Int32} (hB : TB h k) (hm : ∀ i, i < k → σ 6 5 i = h i) (e6 : σ 6 0 6 = nI k) : F_X5_text [.inr (.inr (.inl (6, 0)))] σ = ts_bv (F_X5_readItem [.inr (.inr (.inl (6, 0)))] (mz σ (zt (upd (upd (upd (upd (upd (σ 6 0) 8 (nI 0)) 11 (nI 0)) 14 (nI 0)) 15 (σ 6 1 1)) 16 (σ 6 1 3)) h k (T_sp h k 0)) (σ 6 7))) H_X5_text_43 := by
  have tk := m_tok1 (σ := σ) (f := σ 6 7) (z := upd (upd (upd (upd (upd (σ 6 0) 8 (nI 0)) 11 (nI 0)) 14 (nI 0)) 15 (σ 6 1 1)) 16 (σ 6 1 3)) (e := 0) hB hm (by omega) (by rw [upd_ne _ _ (by omega), upd_ne _ _ (by omega), upd_ne _ _ (by omega), upd_ne _ _ (by omega), upd_ne _ _ (by omega)]; exact e6) (by rw [upd_ne _ _ (by omega), upd_ne _ _ (by omega), upd_ne _ _ (by omega), upd_ne _ _ (by omega), upd_at])
  conv => lhs; rw [← mz_0 σ]
  rw [e_X5_text, nw_s, mz_u, nw_s, mz_u, nw_s, mz_u, ck_n _ (by omega) (by omega), nw_s, mz_u, ck_n _ (by omega) (by omega), nw_s, mz_u, mz_1, mz_1, tk, bv_s, show k - 0 = k by omega]
theorem sim_text : SIM F_X4_text F_X5_text [] := by
  intro σ I
  have R := INV_R I
  have W := R.1
  obtain ⟨i1, i2, i3, ⟨i41, k, hk, i42, i43⟩, i5⟩ := I
  have hB : TB (σ 4 1) k := ⟨hk, fun i hi => (i43 i hi).2⟩
  have hm : ∀ j, j < k → σ 6 5 j = σ 4 1 j := fun j hj => (i43 j hj).1.symm
  have e6 : σ 6 0 6 = nI k := i41.symm.trans i42
  obtain ⟨τ, b1, R1⟩ := c_begin σ R
  rw [cs_0] at b1
  obtain ⟨y1, t1, Y1⟩ := c_tok0 (y := upd (σ 4 0) 4 (nI 0)) τ hB (show 0 ≤ k by omega) (by rw [upd_ne _ _ (by omega)]; exact i42) (upd_at _ _ _)
  have sb := T_sp_b (σ 4 1) k 0
  rw [show k - 0 = k by omega] at Y1
  obtain ⟨r, y', τ', z', f', ρ', g1, g2, g3, g4, g5⟩ := j_items (ρ0 := σ 6 1) hB 121 0 (T_sp (σ 4 1) k 0) y1 τ (zt (upd (upd (upd (upd (upd (σ 6 0) 8 (nI 0)) 11 (nI 0)) 14 (nI 0)) 15 (σ 6 1 1)) 16 (σ 6 1 3)) (σ 4 1) k (T_sp (σ 4 1) k 0)) (σ 6 7) (σ 6 1) (by omega) (by omega) (by omega) Y1 (zt_Z (by rw [upd_ne _ _ (by omega), upd_ne _ _ (by omega), upd_ne _ _ (by omega), upd_ne _ _ (by omega), upd_ne _ _ (by omega)]; exact e6)) (by rw [zt_o _ _ _ _ (by omega), upd_ne _ _ (by omega), upd_ne _ _ (by omega), upd_ne _ _ (by omega), upd_at]) (by rw [zt_o _ _ _ _ (by omega), upd_ne _ _ (by omega), upd_ne _ _ (by omega), upd_at]) (by rw [zt_o _ _ _ _ (by omega), upd_ne _ _ (by omega), upd_at]; exact W.2.1.1) (by rw [zt_o _ _ _ _ (by omega), upd_at]; exact W.2.2.1.1) R1 rfl
  have z3 : z' 3 = σ 6 0 3 := by
    rw [g3, zt_o _ _ _ _ (by omega), upd_ne _ _ (by omega), upd_ne _ _ (by omega), upd_ne _ _ (by omega), upd_ne _ _ (by omega), upd_ne _ _ (by omega)]
  have C : F_X3_readItems [.inr (.inr (.inl (4, 0))), .inr (.inr (.inl (2, 0)))] (cs σ (σ 4 0) τ) = some (some (.inl r), cs σ y' τ') := by
    rw [e_X3_readItems, nw_s, cs_u, t1, bv_s]; exact g1
  have tp : TP (nI 0) (z' 6) (σ 4 1) (σ 6 5) := ⟨g4.symm, 0, by omega, rfl, fun i hi => by omega⟩
  have im : IM (σ 0 0 3) (z' 3) (σ 3) (σ 6 2) := by rw [z3]; exact i3
  rcases g5 with ⟨rn, rfl⟩ | ⟨rn, R2⟩
  · have J : INV (mr (mz (cs σ (upd y' 1 (nI 0)) τ') z' f') (σ 6 1)) := ⟨i1, i2, im, tp, i5⟩
    apply sim_mk (h3 := J)
    · rw [e_X4_text, b1, bv_s, C, bi_s, if_pos rn, nw_s, cs_u]
    · rw [m_text0 hB (σ := cs σ (upd y' 1 (nI 0)) τ') hm e6]
      exact g2 (cs σ (upd y' 1 (nI 0)) τ') hm rfl
  · obtain ⟨τ2, b2, E⟩ := c_become (Or.inr (Or.inr (Or.inl ⟨rfl, rfl⟩)) : ts_bq 1 2) (cs σ y' τ')
    have R3 : RQ τ2 ρ' := RQ_e E R2
    have J : INV (mr (mz (ts_up (va_up (cs σ y' τ') 1 τ2) 4 0 1 (nI 0)) z' f') ρ') := ⟨i1, R3, im, tp, i5⟩
    apply sim_mk (h3 := J)
    · rw [e_X4_text, b1, bv_s, C, bi_s, if_neg rn, b2, bv_s, nw_s]
    · rw [m_text0 hB (σ := ts_up (va_up (cs σ y' τ') 1 τ2) 4 0 1 (nI 0)) hm e6]
      exact g2 (ts_up (va_up (cs σ y' τ') 1 τ2) 4 0 1 (nI 0)) hm rfl
