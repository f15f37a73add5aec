/-! the tape gets bytes -/
def S_by (x : Int32) (t : Nat) : Int32 := ((Int32.toUInt32 x >>> (Int32.toUInt32 (nI 8 * nI t) &&& Int32.toUInt32 31)).toInt32) &&& nI 255
theorem by_n (x : Int32) (t : Nat) : ∃ b, b < 256 ∧ S_by x t = nI b := pk_andE _ 8 (by decide)
theorem toInt_tn (x : Int32) : (x.toBitVec.toNat : Int) = x.toInt % 4294967296 := by
  have h := Int32.toInt_toBitVec x
  have l := x.toBitVec.isLt
  rw [← h, BitVec.toInt_eq_toNat_bmod]
  have := Int.bmod_emod (x := (x.toBitVec.toNat : Int)) (m := 2 ^ 32)
  omega
theorem by_m (x : Int32) {t : Nat} (ht : t < 4) : (x >>> ((nI 8 * nI t) &&& nI 31)) &&& nI 255 = S_by x t := by
  unfold S_by
  rw [pk_and (m := nI 255) (x >>> (nI 8 * nI t &&& nI 31)) 8 (by decide), pk_and (m := nI 255) _ 8 (by decide)]
  congr 1
  have l := x.toBitVec.isLt
  have q := toInt_tn x
  have k1 : ∀ t, t < 4 → ((nI 8 * nI t &&& nI 31).toBitVec.smod 32).toNat = 8 * t := by decide
  have k2 : ∀ t, t < 4 → (((nI 8 * nI t).toUInt32 &&& Int32.toUInt32 31).toBitVec % 32).toNat = 8 * t := by decide
  have e1 := pk_shr x (nI 8 * nI t &&& nI 31) (8 * t) (k1 t ht)
  have e2 := pk_ushr x (nI 8 * nI t) (8 * t) (k2 t ht)
  have e3 := toInt_tn (x >>> (nI 8 * nI t &&& nI 31))
  rw [e1, Int.shiftRight_eq_div_pow] at e3
  rw [e2]
  rcases (show t = 0 ∨ t = 1 ∨ t = 2 ∨ t = 3 by omega) with rfl | rfl | rfl | rfl <;> omega
def S_ap (x : Int32) : Nat → Nat → (Nat → Int32) → (Nat → Int32)
  | 0, _, f => f
  | t + 1, k, f => S_ap x t (k + 1) (upd f k (S_by x t))
def ap4 (τ : Nat → Nat → Int32) (f : Nat → Int32) (v : Int32) : Nat → Nat → Int32 := va_up (va_up τ 1 f) 0 (upd (τ 0) 1 v)
def ap6 (τ : Nat → Nat → Int32) (f : Nat → Int32) (v : Int32) : Nat → Nat → Int32 := va_up (va_up τ 5 f) 0 (upd (τ 0) 6 v)
theorem ap4_ap4 (τ : Nat → Nat → Int32) (f h : Nat → Int32) (v w : Int32) : ap4 (ap4 τ f v) h w = ap4 τ h w := by
  funext c
  unfold ap4
  by_cases h0 : c = 0
  · subst h0; rw [up_at, up_at, up_at]; exact upd_uu _ _ _ _
  · rw [up_ne _ _ h0, up_ne _ _ h0]
    by_cases h1 : c = 1
    · subst h1; rw [up_at, up_at]
    · rw [up_ne _ _ h1, up_ne _ _ h1, up_ne _ _ h0, up_ne _ _ h1]
theorem ap6_ap6 (τ : Nat → Nat → Int32) (f h : Nat → Int32) (v w : Int32) : ap6 (ap6 τ f v) h w = ap6 τ h w := by
  funext c
  unfold ap6
  by_cases h0 : c = 0
  · subst h0; rw [up_at, up_at, up_at]; exact upd_uu _ _ _ _
  · rw [up_ne _ _ h0, up_ne _ _ h0]
    by_cases h1 : c = 5
    · subst h1; rw [up_at, up_at]
    · rw [up_ne _ _ h1, up_ne _ _ h1, up_ne _ _ h0, up_ne _ _ h1]
theorem ap4_id (τ : Nat → Nat → Int32) : ap4 τ (τ 1) (τ 0 1) = τ := by
  unfold ap4
  rw [up_id, upd_same, up_id]
theorem ap6_id (τ : Nat → Nat → Int32) : ap6 τ (τ 5) (τ 0 6) = τ := by
  unfold ap6
  rw [up_id, upd_same, up_id]
theorem x_ap_l (x v2 : Int32) : ∀ t k (σ : ts_S), σ 4 0 1 = nI k → k + t ≤ 120 → H_X3_append_21 x v2 (nI t + (-1)) σ = some (some (.inl (nI 1)), va_up σ 4 (ap4 (σ 4) (S_ap x t k (σ 4 1)) (nI (k + t))))
  | 0, k, σ, h, hk => by
    rw [h_X3_append_21, if_pos (by decide), S_ap, Nat.add_zero, ← h, ap4_id, up_id]
  | t + 1, k, σ, h, hk => by
    have e : ts_up (ts_up σ 4 1 k (S_by x t)) 4 0 1 (nI k + nI 1) = va_up σ 4 (ap4 (σ 4) (upd (σ 4 1) k (S_by x t)) (nI (k + 1))) := by
      rw [qu_up, qu_up, up_uu, up_at, nI_add]; rfl
    have r1 : (ts_up σ 4 1 k (S_by x t)) 4 0 1 = nI k := h
    have ih := x_ap_l x v2 t (k + 1) (va_up σ 4 (ap4 (σ 4) (upd (σ 4 1) k (S_by x t)) (nI (k + 1)))) rfl (by omega)
    rw [up_uu, up_at, ap4_ap4] at ih
    have r2 : ap4 (σ 4) (upd (σ 4 1) k (S_by x t)) (nI (k + 1)) 1 = upd (σ 4 1) k (S_by x t) := rfl
    rw [r2] at ih
    have hb : ((Int32.toUInt32 x >>> (Int32.toUInt32 (nI 8 * nI t) &&& Int32.toUInt32 31)).toInt32) &&& nI 255 = S_by x t := rfl
    rw [h_X3_append_21, pk_m1, if_neg (nn (by omega)), h, ck_n _ (by omega) (by omega), nw_s, nI_clamp (by omega), hb, nw_s, r1, e, ih, S_ap, show k + 1 + t = k + (t + 1) by omega]
theorem m_ap_l (x v2 : Int32) : ∀ t k (σ : ts_S), t ≤ 4 → σ 6 0 6 = nI k → k + t ≤ 120 → H_X5_feed_38 x v2 (nI t + (-1)) σ = some (some (.inl (nI (k + t))), va_up σ 6 (ap6 (σ 6) (S_ap x t k (σ 6 5)) (nI (k + t))))
  | 0, k, σ, ht, h, hk => by
    rw [h_X5_feed_38, if_pos (by decide), S_ap, Nat.add_zero, ← h, ap6_id, up_id]
  | t + 1, k, σ, ht, h, hk => by
    have e : ts_up (ts_up σ 6 5 k (S_by x t)) 6 0 6 (nI k + nI 1) = va_up σ 6 (ap6 (σ 6) (upd (σ 6 5) k (S_by x t)) (nI (k + 1))) := by
      rw [qu_up, qu_up, up_uu, up_at, nI_add]; rfl
    have r1 : (ts_up σ 6 5 k (S_by x t)) 6 0 6 = nI k := h
    have ih := m_ap_l x v2 t (k + 1) (va_up σ 6 (ap6 (σ 6) (upd (σ 6 5) k (S_by x t)) (nI (k + 1)))) (by omega) rfl (by omega)
    rw [up_uu, up_at, ap6_ap6] at ih
    have r2 : ap6 (σ 6) (upd (σ 6 5) k (S_by x t)) (nI (k + 1)) 5 = upd (σ 6 5) k (S_by x t) := rfl
    rw [r2] at ih
    rw [h_X5_feed_38, pk_m1, if_neg (nn (by omega)), h, ck_n _ (by omega) (by omega), nw_s, nI_clamp (by omega), by_m x (by omega), nw_s, r1, e, ih, S_ap, show k + 1 + t = k + (t + 1) by omega]
def TPk (k : Nat) (f h : Nat → Int32) : Prop := ∀ i, i < k → f i = h i ∧ ∃ b, b < 256 ∧ f i = nI b
theorem TP_ap (x : Int32) : ∀ t k (f h : Nat → Int32), TPk k f h → TPk (k + t) (S_ap x t k f) (S_ap x t k h)
  | 0, k, f, h, T => T
  | t + 1, k, f, h, T => by
    have := TP_ap x t (k + 1) (upd f k (S_by x t)) (upd h k (S_by x t)) (fun i hi => by
      by_cases e : i = k
      · subst e
        rw [upd_at, upd_at]
        exact ⟨rfl, by_n x t⟩
      · rw [upd_ne _ _ e, upd_ne _ _ e]
        exact T i (by omega))
    rw [S_ap, S_ap, show k + (t + 1) = k + 1 + t by omega]
    exact this
theorem sub_le {k n : Nat} (hk : k ≤ 120) (hn : n ≤ 4) : nI n ≤ nI 120 - nI k ↔ k + n ≤ 120 := by
  rw [pk_sub hk, nI_leI (by omega) (by omega)]
  omega
theorem sim_feed (a1 a2 : Int32) : SIM F_X4_feed F_X5_feed [.inl a1, .inl a2] := by
  intro σ I
  obtain ⟨e0, k, hk, ek, T⟩ := I.2.2.2.1
  by_cases h1 : nI 1 ≤ a2 ∧ a2 ≤ nI 4
  · obtain ⟨n, hn1, hn, rfl⟩ := in_of1 (by omega) h1
    have hk6 : σ 6 0 6 = nI k := by rw [← e0]; exact ek
    have pm : nI n - nI 1 = nI n + (-1) := by
      obtain ⟨m, rfl⟩ : ∃ m, n = m + 1 := ⟨n - 1, by omega⟩
      rw [nI_m1', pk_m1]
    by_cases h2 : k + n ≤ 120
    · have e1 := x_ap_l a1 (nI n) n k σ ek h2
      have e2 := m_ap_l a1 (nI n) n k (va_up σ 4 (ap4 (σ 4) (S_ap a1 n k (σ 4 1)) (nI (k + n)))) hn hk6 h2
      apply sim_mk (σ1 := va_up σ 4 (ap4 (σ 4) (S_ap a1 n k (σ 4 1)) (nI (k + n)))) (σ2 := va_up (va_up σ 4 (ap4 (σ 4) (S_ap a1 n k (σ 4 1)) (nI (k + n)))) 6 (ap6 (σ 6) (S_ap a1 n k (σ 6 5)) (nI (k + n)))) (r := (nI (k + n)))
      · rw [e_X4_feed, within_t σ h1, bi_s, if_neg n10, e_X3_append, if_neg (nn (by omega)), ek, if_pos ((sub_le hk hn).mpr h2), ni_s, pm, e1, bi_s, if_neg n10]; rfl
      · rw [e_X5_feed, mwithin_t _ h1, bi_s, if_neg n10]
        have r : (va_up σ 4 (ap4 (σ 4) (S_ap a1 n k (σ 4 1)) (nI (k + n)))) 6 0 6 = nI k := hk6
        rw [r, nI_add, if_pos (nI_le h2 (by omega)), ni_s, pm, e2]; rfl
      · obtain ⟨i1, i2, i3, i4, i5⟩ := I
        exact ⟨i1, i2, i3, ⟨rfl, k + n, h2, rfl, TP_ap a1 n k (σ 4 1) (σ 6 5) T⟩, i5⟩
    · obtain ⟨A, e1, σ2, e2, I2⟩ := find1 I
      apply sim_mk (h3 := I2)
      · rw [e_X4_feed, within_t σ h1, bi_s, if_neg n10, e_X3_append, if_neg (nn (by omega)), ek, if_neg (fun z => h2 ((sub_le hk hn).mp z)), bi_s, if_pos rfl, e1, bi_s]
      · have r : (va_up σ 0 A) 6 0 6 = nI k := hk6
        rw [e_X5_feed, mwithin_t _ h1, bi_s, if_neg n10, r, nI_add, if_neg (nI_ge (by omega) (by omega)), e2, bi_s]
  · obtain ⟨A, e1, σ2, e2, I2⟩ := find0 I
    apply sim_mk (h3 := I2)
    · rw [e_X4_feed, within_f σ h1, bi_s, if_pos rfl, e1, bi_s]
    · rw [e_X5_feed, mwithin_f _ h1, bi_s, if_pos rfl, e2, bi_s]
theorem sim_wipe : SIM F_X4_wipe F_X5_wipe [] := by
  intro σ I
  obtain ⟨e0, k, hk, ek, T⟩ := I.2.2.2.1
  obtain ⟨i1, i2, i3, i4, i5⟩ := I
  apply sim_mk (σ2 := va_up (va_up σ 4 (qu (σ 4) 0 1 (nI 0))) 6 (qu (σ 6) 0 6 (nI 0))) (h3 := ⟨i1, i2, i3, ⟨rfl, 0, by omega, rfl, fun i hi => by omega⟩, i5⟩)
  · rw [e_X4_wipe, ni_s, nw_s, qu_up]
  · rw [e_X5_wipe, ni_s, nw_s, qu_up, e0]; rfl
/-! image, undo, tear, status -/
theorem WR_x {ρ ρ' : Nat → Int32} (W : WR ρ) (h : ∀ a, a < 111 → ρ' a = ρ a) : WR ρ' := by
  have eS : nS ρ' = nS ρ := by unfold nS; rw [h 1 (by omega)]
  have eP : nP ρ' = nP ρ := by unfold nP; rw [h 3 (by omega)]
  obtain ⟨h0, h1, h2, h3, h4, h5, h6, h7⟩ := W
  refine ⟨by rw [h 0 (by omega)]; exact h0, by rw [eS, h 1 (by omega)]; exact h1, by rw [eP, h 3 (by omega)]; exact h2, by rw [h 4 (by omega)]; exact h3, fun i hi => by rw [h _ (by omega)]; exact h4 i hi, fun i hi => by rw [eS, h _ (by omega)]; exact h5 i hi, fun i hi => ?_, fun p hp => ?_⟩
  · rw [eS] at hi
    have := h1.2
    exact wS_c (fun f hf => h _ (by unfold sx; omega)) (h6 i hi)
  · rw [eP] at hp
    have := h2.2
    exact wP_c (fun f hf => h _ (by unfold px; omega)) (h 1 (by omega)) (h7 p hp)
theorem RQ_x {τ : Nat → Nat → Int32} {ρ ρ' : Nat → Int32} (R : RQ τ ρ) (h : ∀ a, a < 111 → ρ' a = ρ a) : RQ τ ρ' := by
  have W' := WR_x R.1 h
  have eS : nS ρ' = nS ρ := by unfold nS; rw [h 1 (by omega)]
  have eP : nP ρ' = nP ρ := by unfold nP; rw [h 3 (by omega)]
  obtain ⟨W, ⟨a0, a1, a2, a3, a4⟩, hl, hp, hS, hP⟩ := R
  refine ⟨W', ⟨by rw [h _ (by omega)]; exact a0, by rw [h _ (by omega)]; exact a1, by rw [h _ (by omega)]; exact a2, by rw [h _ (by omega)]; exact a3, by rw [h _ (by omega)]; exact a4⟩, fun i hi => by rw [h _ (by omega)]; exact hl i hi, fun i hi => by rw [h _ (by omega)]; exact hp i hi, fun i hi => ?_, fun p hp => ?_⟩
  · rw [eS] at hi
    have i8 := WR_i8 W hi
    exact rS_c (okS_k (WR_okS W hi)).2 (fun f hf => h _ (by unfold sx; omega)) (fun c hc => rfl) (fun k hk => rfl) (hS i hi)
  · rw [eP] at hp
    have p6 := WR_p6 W hp
    exact rP_c (fun f hf => h _ (by unfold px; omega)) (fun c hc => rfl) (hP p hp)
theorem cpR_lt (ρ α : Nat → Int32) {a : Nat} (h : a < 111) : cpR ρ α a = ρ a := if_pos h
theorem sim_image : SIM F_X4_image F_X5_image [] := by
  intro σ I
  have R := INV_R I
  obtain ⟨τ, e1, E⟩ := c_become (Or.inr (Or.inl ⟨rfl, rfl⟩) : ts_bq 3 1) σ
  obtain ⟨i1, i2, i3, i4, i5⟩ := I
  have R3 : RQ τ (cpR (σ 6 1) (σ 6 2)) := RQ_x (RQ_e E R) (fun a ha => cpR_lt _ _ ha)
  apply sim_mk (σ1 := va_up (va_up σ 3 τ) 0 (qu (σ 0) 0 3 (nI 1))) (σ2 := va_up (va_up (va_up σ 3 τ) 0 (qu (σ 0) 0 3 (nI 1))) 6 (qu (va_up (σ 6) 2 (cpR (σ 6 1) (σ 6 2))) 0 3 (nI 1))) (r := (nI 1))
  · rw [e_X4_image, e1, bv_s, nw_s, qu_up]; rfl
  · rw [e_X5_image, m_copy (Or.inl ⟨rfl, rfl⟩ : ts_mq 1 2), bv_s, nw_s, qu_up, up_uu, up_at]; rfl
  · exact ⟨i1, i2, ⟨rfl, Or.inr rfl, fun _ => R3⟩, i4, i5⟩
theorem sim_undo : SIM F_X4_undo F_X5_undo [] := by
  intro σ I
  have I0 := I
  obtain ⟨i1, i2, ⟨j1, j2, j3⟩, i4, i5⟩ := I
  rcases j2 with j | j
  · obtain ⟨A, e1, σ2, e2, I2⟩ := find3 I0
    apply sim_mk (h3 := I2)
    · rw [e_X4_undo, if_pos j, e1, bi_s]
    · have r : (va_up σ 0 A) 6 0 3 = nI 0 := by rw [← j]; exact j1.symm
      rw [e_X5_undo, if_pos r, e2, bi_s]
  · obtain ⟨τ, e1, E⟩ := c_become (Or.inr (Or.inr (Or.inr ⟨rfl, rfl⟩)) : ts_bq 1 3) σ
    have R1 : RQ τ (cpR (σ 6 2) (σ 6 1)) := RQ_x (RQ_e E (j3 j)) (fun a ha => cpR_lt _ _ ha)
    apply sim_mk (σ1 := va_up σ 1 τ) (σ2 := mr (va_up σ 1 τ) (cpR (σ 6 2) (σ 6 1))) (h3 := INV_q I0 R1)
    · rw [e_X4_undo, if_neg (by rw [j]; exact n10), e1, bv_s, up_at]
    · have r : ¬ (va_up σ 1 τ) 6 0 3 = nI 0 := by
        have : (va_up σ 1 τ) 6 0 3 = nI 1 := by rw [← j]; exact j1.symm
        rw [this]; exact n10
      rw [e_X5_undo, if_neg r, m_copy (Or.inr (Or.inl ⟨rfl, rfl⟩) : ts_mq 2 1), bv_s, ck_n _ (by omega) (by omega), R1.2.1.1]; rfl
theorem sim_tear : SIM F_X4_tear F_X5_tear [] := by
  intro σ I
  obtain ⟨i1, i2, ⟨j1, j2, j3⟩, i4, i5⟩ := I
  have J : INV (va_up (va_up σ 0 (qu (σ 0) 0 3 (nI 0))) 6 (qu (σ 6) 0 3 (nI 0))) := ⟨i1, i2, ⟨rfl, Or.inl rfl, fun h => absurd h n01⟩, i4, i5⟩
  rcases j2 with j | j
  · apply sim_mk (σ1 := va_up σ 0 (qu (σ 0) 0 3 (nI 0))) (r := (nI 0)) (h3 := J)
    · rw [e_X4_tear, if_pos j, nw_s, qu_up]
    · have r : (va_up σ 0 (qu (σ 0) 0 3 (nI 0))) 6 0 3 = nI 0 := by rw [← j]; exact j1.symm
      rw [e_X5_tear, if_pos r, nw_s, qu_up]; rfl
  · apply sim_mk (σ1 := va_up σ 0 (qu (σ 0) 0 3 (nI 0))) (r := (nI 1)) (h3 := J)
    · rw [e_X4_tear, if_neg (by rw [j]; exact n10), nw_s, qu_up]
    · have r : (va_up σ 0 (qu (σ 0) 0 3 (nI 0))) 6 0 3 = nI 1 := by rw [← j]; exact j1.symm
      rw [e_X5_tear, if_neg (by rw [r]; exact n10), nw_s, qu_up]; rfl
theorem c_status_l (v : Int32) (σ : ts_S) : ∀ t j, j + t = 7 → H_X4_status_9 v (S_fd (fun a k => a + σ 0 1 k) j) (nI j) σ = some (some (.inl (S_fd (fun a k => a + σ 0 1 k) 7)), σ)
  | 0, j, e => by
    rw [h_X4_status_9, if_pos (nI_le (by omega) (by omega)), show j = 7 by omega]
  | t + 1, j, e => by
    rw [h_X4_status_9, if_neg (nI_ge (by omega) (by omega)), ck_n _ (by omega) (by omega), ni_s, nI_clamp (by omega), nI_add]
    exact c_status_l v σ t (j + 1) (by omega)
theorem add0_ (x : Int32) : nI 0 + x = x := by rw [nI_0]; exact Int32.zero_add x
theorem sim_status (a1 : Int32) : SIM F_X4_status F_X5_status [.inl a1] := by
  intro σ I
  have F := I.1
  by_cases h0 : a1 = -1
  · subst h0
    apply sim_mk (h3 := I)
    · rw [e_X4_status, if_pos rfl]
      exact c_status_l _ σ 7 0 (by omega)
    · have e : (-1 : Int32) + nI 1 = nI 0 := by decide
      rw [e_X5_status, mwithin_t σ (by decide), bi_s, if_neg n10, e, ck_n _ (by omega) (by omega)]
      have z : (nI 0).toNatClampNeg = 0 := by decide
      rw [z, F.2]
      simp only [S_fd, add0_]
  · by_cases h1 : nI 0 ≤ a1 ∧ a1 < nI 7
    · obtain ⟨k, hk, rfl⟩ := in_of (by omega) h1
      apply sim_mk (h3 := I)
      · rw [e_X4_status, if_neg h0, below_t σ h1, bi_s, if_neg n10, ck_n _ hk (by omega), nI_clamp (by omega)]
      · rw [e_X5_status, mwithin_t σ ⟨Int32.le_trans (by decide) (nge (show k < 2 ^ 31 by omega)), nI_le (show k ≤ 6 by omega) (by omega)⟩, bi_s, if_neg n10, nI_add, ck_n _ (by omega) (by omega), nI_clamp (by omega), F.1 k hk]
    · obtain ⟨A, e1, σ2, e2, I2⟩ := find0 I
      apply sim_mk (h3 := I2)
      · rw [e_X4_status, if_neg h0, below_f σ h1, bi_s, if_pos rfl, e1, bi_s]
      · rw [e_X5_status, mwithin_f _ (fun q => ?_), bi_s, if_pos rfl, e2, bi_s]
        apply h1
        have q0 : nI 0 ≤ a1 := by
          have m : (-1 : Int32).toInt = -1 := by decide
          have z : (nI 0).toInt = 0 := by decide
          have q1 := Int32.le_iff_toInt_le.mp q.1
          rw [m] at q1
          apply Int32.le_iff_toInt_le.mpr
          rw [z]
          have : ¬ a1.toInt = -1 := fun e => h0 (Int32.toInt_inj.mp (by rw [m]; exact e))
          omega
        exact (le_lt (n := 6) (by omega)).mp ⟨q0, q.2⟩
