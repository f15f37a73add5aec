/-! the tape's tokens -/
theorem up_c {α : Type} (f : Nat → α) {j k : Nat} (v w : α) (h : ¬ j = k) : va_up (va_up f j v) k w = va_up (va_up f k w) j v := by
  funext i
  unfold va_up
  by_cases e : i = k
  · rw [if_pos e, if_neg (by omega), if_pos e]
  · rw [if_neg e, if_neg e]
def cs (σ : ts_S) (y : Nat → Int32) (τ : Nat → Nat → Int32) : ts_S := va_up (va_up σ 4 (va_up (σ 4) 0 y)) 2 τ
def mz (σ : ts_S) (z f : Nat → Int32) : ts_S := va_up σ 6 (va_up (va_up (σ 6) 0 z) 7 f)
theorem cs_r (σ : ts_S) (y : Nat → Int32) (τ : Nat → Nat → Int32) (j : Nat) : cs σ y τ 4 0 j = y j := rfl
theorem cs_b (σ : ts_S) (y : Nat → Int32) (τ : Nat → Nat → Int32) : cs σ y τ 4 1 = σ 4 1 := rfl
theorem cs_2 (σ : ts_S) (y : Nat → Int32) (τ : Nat → Nat → Int32) : cs σ y τ 2 = τ := rfl
theorem cs_u (σ : ts_S) (y : Nat → Int32) (τ : Nat → Nat → Int32) (j : Nat) (x : Int32) : ts_up (cs σ y τ) 4 0 j x = cs σ (upd y j x) τ := by
  show va_up (va_up (va_up σ 4 (va_up (σ 4) 0 y)) 2 τ) 4 (va_up (va_up (σ 4) 0 y) 0 (upd y j x)) = _
  rw [up_c _ _ _ (show ¬ 2 = 4 by omega), up_uu, up_uu]; rfl
theorem cs_g (σ : ts_S) (y : Nat → Int32) (τ τ' : Nat → Nat → Int32) : va_up (cs σ y τ) 2 τ' = cs σ y τ' := up_uu _ _ _ _
theorem mz_r (σ : ts_S) (z f : Nat → Int32) (j : Nat) : mz σ z f 6 0 j = z j := rfl
theorem mz_f (σ : ts_S) (z f : Nat → Int32) : mz σ z f 6 7 = f := rfl
theorem mz_5 (σ : ts_S) (z f : Nat → Int32) : mz σ z f 6 5 = σ 6 5 := rfl
theorem mz_1 (σ : ts_S) (z f : Nat → Int32) : mz σ z f 6 1 = σ 6 1 := rfl
theorem mz_u (σ : ts_S) (z f : Nat → Int32) (j : Nat) (x : Int32) : ts_up (mz σ z f) 6 0 j x = mz σ (upd z j x) f := by
  show va_up (va_up σ 6 (va_up (va_up (σ 6) 0 z) 7 f)) 6 (va_up (va_up (va_up (σ 6) 0 z) 7 f) 0 (upd z j x)) = _
  rw [up_uu, up_c _ _ _ (show ¬ 7 = 0 by omega), up_uu]; rfl
theorem mz_w (σ : ts_S) (z f : Nat → Int32) (j : Nat) (x : Int32) : ts_up (mz σ z f) 6 7 j x = mz σ z (upd f j x) := by
  show va_up (va_up σ 6 (va_up (va_up (σ 6) 0 z) 7 f)) 6 (va_up (va_up (va_up (σ 6) 0 z) 7 f) 7 (upd f j x)) = _
  rw [up_uu, up_uu]; rfl
abbrev isL (x : Int32) : Prop := nI 97 ≤ x ∧ x ≤ nI 122
abbrev isD (x : Int32) : Prop := nI 48 ≤ x ∧ x ≤ nI 57
def T_sp (h : Nat → Int32) : Nat → Nat → Nat
  | 0, j => j
  | t + 1, j => if h j = nI 32 then T_sp h t (j + 1) else j
def T_wd (h : Nat → Int32) : Nat → Nat → Nat
  | 0, j => j
  | t + 1, j => if isL (h j) then T_wd h t (j + 1) else j
def T_m (n b : Nat) : Nat := if 10000 < 10 * n + b - 48 then 10000 else 10 * n + b - 48
def T_nu (h : Nat → Int32) : Nat → Nat → Nat → Nat × Nat
  | 0, j, n => (j, n)
  | t + 1, j, n => if isD (h j) then T_nu h t (j + 1) (T_m n (h j).toNatClampNeg) else (j, n)
def T_t (h : Nat → Int32) (k b : Nat) : Nat := if b = k then 0 else if isL (h b) then 1 else if isD (h b) then 2 else if h b = nI 59 then 3 else 4
def T_e (h : Nat → Int32) (k b : Nat) : Nat := if b = k then b else if isL (h b) then T_wd h (k - b) b else if isD (h b) then (T_nu h (k - b) b 0).1 else b + 1
def T_v (h : Nat → Int32) (k b : Nat) : Nat := (T_nu h (k - b) b 0).2
def T_n (h : Nat → Int32) (k b : Nat) : Nat := T_sp h (k - T_e h k b) (T_e h k b)
theorem T_m_le (n b : Nat) : T_m n b ≤ 10000 := by unfold T_m; split <;> omega
theorem T_sp_b (h : Nat → Int32) : ∀ t j, j ≤ T_sp h t j ∧ T_sp h t j ≤ j + t
  | 0, j => ⟨Nat.le_refl _, Nat.le_refl _⟩
  | t + 1, j => by
    rw [T_sp]
    split
    · have := T_sp_b h t (j + 1); omega
    · omega
theorem T_wd_b (h : Nat → Int32) : ∀ t j, j ≤ T_wd h t j ∧ T_wd h t j ≤ j + t
  | 0, j => ⟨Nat.le_refl _, Nat.le_refl _⟩
  | t + 1, j => by
    rw [T_wd]
    split
    · have := T_wd_b h t (j + 1); omega
    · omega
theorem T_nu_b (h : Nat → Int32) : ∀ t j n, j ≤ (T_nu h t j n).1 ∧ (T_nu h t j n).1 ≤ j + t ∧ (n ≤ 10000 → (T_nu h t j n).2 ≤ 10000)
  | 0, j, n => ⟨Nat.le_refl _, Nat.le_refl _, id⟩
  | t + 1, j, n => by
    rw [T_nu]
    split
    · have := T_nu_b h t (j + 1) (T_m n (h j).toNatClampNeg)
      exact ⟨by omega, by omega, fun _ => this.2.2 (T_m_le _ _)⟩
    · exact ⟨by show j ≤ j; omega, by show j ≤ _; omega, id⟩
theorem T_v_b (h : Nat → Int32) (k b : Nat) : T_v h k b ≤ 10000 := (T_nu_b h _ _ _).2.2 (by omega)
theorem T_e_b (h : Nat → Int32) {k b : Nat} (hb : b ≤ k) : b ≤ T_e h k b ∧ T_e h k b ≤ k := by
  unfold T_e
  split
  · omega
  · split
    · have := T_wd_b h (k - b) b; omega
    · split
      · have := T_nu_b h (k - b) b 0; omega
      · omega
theorem T_n_b (h : Nat → Int32) {k b : Nat} (hb : b ≤ k) : b ≤ T_n h k b ∧ T_n h k b ≤ k ∧ T_e h k b ≤ T_n h k b := by
  have h1 := T_e_b h hb
  have h2 := T_sp_b h (k - T_e h k b) (T_e h k b)
  unfold T_n
  omega
theorem T_t_c (h : Nat → Int32) (k b : Nat) : T_t h k b ≤ 4 ∧ (T_t h k b = 3 → h b = nI 59 ∧ ¬ b = k ∧ T_e h k b = b + 1) ∧ (T_t h k b = 4 → ¬ h b = nI 59 ∧ ¬ b = k) ∧ (¬ T_t h k b = 0 → ¬ b = k) ∧ (T_t h k b = 0 → b = k) := by
  unfold T_t T_e
  by_cases h0 : b = k
  · rw [if_pos h0]; exact ⟨by omega, fun q => by omega, fun q => by omega, fun q => absurd rfl q, fun _ => h0⟩
  · rw [if_neg h0, if_neg h0]
    by_cases h1 : isL (h b)
    · rw [if_pos h1]; exact ⟨by omega, fun q => by omega, fun q => by omega, fun _ => h0, fun q => by omega⟩
    · rw [if_neg h1, if_neg h1]
      by_cases h2 : isD (h b)
      · rw [if_pos h2]; exact ⟨by omega, fun q => by omega, fun q => by omega, fun _ => h0, fun q => by omega⟩
      · rw [if_neg h2, if_neg h2]
        by_cases h3 : h b = nI 59
        · rw [if_pos h3]; exact ⟨by omega, fun _ => ⟨h3, h0, rfl⟩, fun q => by omega, fun _ => h0, fun q => by omega⟩
        · rw [if_neg h3]; exact ⟨by omega, fun q => by omega, fun _ => ⟨h3, h0⟩, fun _ => h0, fun q => by omega⟩
def YT (y h : Nat → Int32) (k b : Nat) : Prop := y 1 = nI k ∧ y 2 = nI (T_t h k b) ∧ y 3 = nI b ∧ y 4 = nI (T_e h k b) ∧ (T_t h k b = 2 → y 5 = nI (T_v h k b))
def ZT (z h : Nat → Int32) (k b : Nat) : Prop := z 6 = nI k ∧ z 9 = nI (if T_t h k b = 4 then 3 else T_t h k b) ∧ z 7 = nI b ∧ z 8 = nI (T_e h k b) ∧ z 10 = nI (if T_t h k b = 2 then T_v h k b else 0)
def TB (h : Nat → Int32) (k : Nat) : Prop := k ≤ 120 ∧ ∀ i, i < k → ∃ b, b < 256 ∧ h i = nI b
theorem let_t {a : Int32} (σ : ts_S) (h : isL a) : F_X3_isLetter [.inl a] σ = some (some (.inl (nI 1)), σ) := by
  rw [e_X3_isLetter, if_neg (Int32.not_lt.mpr h.1), if_neg (Int32.not_lt.mpr h.2)]
theorem let_f {a : Int32} (σ : ts_S) (h : ¬ isL a) : F_X3_isLetter [.inl a] σ = some (some (.inl (nI 0)), σ) := by
  rw [e_X3_isLetter]
  by_cases h1 : a < nI 97
  · rw [if_pos h1]
  · rw [if_neg h1, if_pos (Int32.not_le.mp (fun q => h ⟨Int32.not_lt.mp h1, q⟩))]
theorem dig_t {a : Int32} (σ : ts_S) (h : isD a) : F_X3_isDigit [.inl a] σ = some (some (.inl (nI 1)), σ) := by
  rw [e_X3_isDigit, if_neg (Int32.not_lt.mpr h.1), if_neg (Int32.not_lt.mpr h.2)]
theorem dig_f {a : Int32} (σ : ts_S) (h : ¬ isD a) : F_X3_isDigit [.inl a] σ = some (some (.inl (nI 0)), σ) := by
  rw [e_X3_isDigit]
  by_cases h1 : a < nI 48
  · rw [if_pos h1]
  · rw [if_neg h1, if_pos (Int32.not_le.mp (fun q => h ⟨Int32.not_lt.mp h1, q⟩))]
theorem c_wd {σ : ts_S} {τ : Nat → Nat → Int32} {k : Nat} (hk : k ≤ 120) : ∀ t j (y : Nat → Int32), j + t = k → y 1 = nI k → y 4 = nI j → ∃ y', H_X3_readToken_93 (cs σ y τ) = some (none, cs σ y' τ) ∧ y' 1 = y 1 ∧ y' 2 = y 2 ∧ y' 3 = y 3 ∧ y' 4 = nI (T_wd (σ 4 1) t j)
  | 0, j, y, e, e1, e4 => ⟨y, by rw [h_X3_readToken_93, cs_r, cs_r, e1, e4, if_pos (nI_le (by omega) (by omega))], rfl, rfl, rfl, e4⟩
  | t + 1, j, y, e, e1, e4 => by
    have st : H_X3_readToken_93 (cs σ y τ) = ts_bi (F_X3_isLetter [.inl (σ 4 1 j)] (cs σ y τ)) fun x2 σ1 => if x2 = nI 0 then some (none, σ1) else ts_nw (ts_up σ1 4 0 4 (σ1 4 0 4 + nI 1)) fun σ3 => H_X3_readToken_93 σ3 := by
      rw [h_X3_readToken_93, cs_r, cs_r, e1, e4, if_neg (nI_ge (by omega) (by omega)), ck_n _ (show j < 120 by omega) (by omega), cs_b, nI_clamp (by omega)]
    rw [st, T_wd]
    by_cases q : isL (σ 4 1 j)
    · obtain ⟨y', h1, h2, h3, h4, h5⟩ := c_wd hk t (j + 1) (upd y 4 (nI (j + 1))) (by omega) (by rw [upd_ne _ _ (by omega)]; exact e1) (upd_at _ _ _)
      refine ⟨y', ?_, by rw [h2, upd_ne _ _ (by omega)], by rw [h3, upd_ne _ _ (by omega)], by rw [h4, upd_ne _ _ (by omega)], by rw [if_pos q]; exact h5⟩
      rw [let_t _ q, bi_s, if_neg n10, nw_s, cs_r, e4, nI_add, cs_u]; exact h1
    · exact ⟨y, by rw [let_f _ q, bi_s, if_pos rfl], rfl, rfl, rfl, by rw [if_neg q]; exact e4⟩
theorem T_min (n b : Nat) (hn : n ≤ 10000) (hb : b < 256) (h : 48 ≤ b) : (if nI 10000 < nI 10 * nI n + nI b - nI 48 then nI 10000 else nI 10 * nI n + nI b - nI 48) = nI (T_m n b) ∧ (if nI 10 * nI n + nI b - nI 48 < nI 10000 then nI 10 * nI n + nI b - nI 48 else nI 10000) = nI (T_m n b) := by
  rw [pk_mul, nI_add, pk_sub (by omega)]
  unfold T_m
  by_cases q : 10000 < 10 * n + b - 48
  · rw [if_pos (nI_lt q (by omega)), if_pos q, if_neg (nI_nlt (by omega) (by omega))]
    exact ⟨rfl, rfl⟩
  · rw [if_neg (nI_nlt (by omega) (by omega)), if_neg q]
    refine ⟨rfl, ?_⟩
    by_cases p : 10 * n + b - 48 < 10000
    · rw [if_pos (nI_lt p (by omega))]
    · rw [if_neg (nI_nlt (by omega) (by omega)), show 10 * n + b - 48 = 10000 by omega]
theorem isD_b {b : Nat} (hb : b < 256) (h : isD (nI b)) : 48 ≤ b := (nI_leI (by omega) (by omega)).mp h.1
theorem c_nu {σ : ts_S} {τ : Nat → Nat → Int32} {k : Nat} (hB : TB (σ 4 1) k) : ∀ t j n (y : Nat → Int32), j + t = k → n ≤ 10000 → y 1 = nI k → y 4 = nI j → y 5 = nI n → ∃ y', H_X3_readToken_157 (cs σ y τ) = some (none, cs σ y' τ) ∧ y' 1 = y 1 ∧ y' 2 = y 2 ∧ y' 3 = y 3 ∧ y' 4 = nI (T_nu (σ 4 1) t j n).1 ∧ y' 5 = nI (T_nu (σ 4 1) t j n).2
  | 0, j, n, y, e, hn, e1, e4, e5 => ⟨y, by have := hB.1; rw [h_X3_readToken_157, cs_r, cs_r, e1, e4, if_pos (nI_le (by omega) (by omega))], rfl, rfl, rfl, e4, e5⟩
  | t + 1, j, n, y, e, hn, e1, e4, e5 => by
    have hk := hB.1
    obtain ⟨b, hb, eb⟩ := hB.2 j (by omega)
    have st : H_X3_readToken_157 (cs σ y τ) = ts_bi (F_X3_isDigit [.inl (σ 4 1 j)] (cs σ y τ)) fun x2 σ1 => if x2 = nI 0 then some (none, σ1) else ts_ck (σ1 4 0 4) 120 <| ts_bi (F_J9_min_7cf53 [.inl ((((nI 10) * (σ1 4 0 5)) + (σ1 4 1 ((σ1 4 0 4).toNatClampNeg))) - (nI 48)), .inl (nI 10000)] σ1) fun x4 σ3 => ts_nw (ts_up σ3 4 0 5 x4) fun σ5 => ts_nw (ts_up σ5 4 0 4 ((σ5 4 0 4) + (nI 1))) fun σ6 => H_X3_readToken_157 σ6 := by
      rw [h_X3_readToken_157, cs_r, cs_r, e1, e4, if_neg (nI_ge (by omega) (by omega)), ck_n _ (show j < 120 by omega) (by omega), cs_b, nI_clamp (by omega)]
    rw [st, T_nu]
    by_cases q : isD (σ 4 1 j)
    · have q' : isD (nI b) := by rw [← eb]; exact q
      have cl : (σ 4 1 j).toNatClampNeg = b := by rw [eb, nI_clamp (by omega)]
      obtain ⟨y', h1, h2, h3, h4, h5, h6⟩ := c_nu hB t (j + 1) (T_m n b) (upd (upd y 5 (nI (T_m n b))) 4 (nI (j + 1))) (by omega) (T_m_le _ _) (by rw [upd_ne _ _ (by omega), upd_ne _ _ (by omega)]; exact e1) (upd_at _ _ _) (by rw [upd_ne _ _ (by omega), upd_at])
      refine ⟨y', ?_, by rw [h2, upd_ne _ _ (by omega), upd_ne _ _ (by omega)], by rw [h3, upd_ne _ _ (by omega), upd_ne _ _ (by omega)], by rw [h4, upd_ne _ _ (by omega), upd_ne _ _ (by omega)], by rw [if_pos q, cl]; exact h5, by rw [if_pos q, cl]; exact h6⟩
      rw [dig_t _ q, bi_s, if_neg n10, cs_r, e4, ck_n _ (show j < 120 by omega) (by omega), cs_r, e5, cs_b, nI_clamp (show j < 2 ^ 31 by omega), eb, min_e, bi_s, (T_min n b hn hb (isD_b hb q')).1, nw_s, cs_u, nw_s, cs_r, upd_ne _ _ (show ¬ 4 = 5 by omega), e4, nI_add, cs_u]; exact h1
    · exact ⟨y, by rw [dig_f _ q, bi_s, if_pos rfl], rfl, rfl, rfl, by rw [if_neg q]; exact e4, by rw [if_neg q]; exact e5⟩
theorem c_sp {σ : ts_S} {τ : Nat → Nat → Int32} {k : Nat} (hB : TB (σ 4 1) k) : ∀ t j (y : Nat → Int32), j + t = k → y 1 = nI k → y 3 = nI j → ∃ y', H_X3_readToken_8 (cs σ y τ) = some (none, cs σ y' τ) ∧ YT y' (σ 4 1) k (T_sp (σ 4 1) t j)
  | 0, j, y, e, e1, e3 => by
    have hk := hB.1
    have hj : j = k := by omega
    refine ⟨upd (upd y 4 (nI j)) 2 (nI 0), ?_, ?_, ?_, ?_, ?_, ?_⟩
    · rw [h_X3_readToken_8, cs_r, cs_r, e1, e3, if_pos (nI_le (by omega) (by omega)), nw_s, cs_u, cs_r, cs_r, upd_ne _ _ (show ¬ 3 = 4 by omega), upd_ne _ _ (show ¬ 1 = 4 by omega), e1, e3, if_neg (nI_nlt (by omega) (by omega)), nw_s, cs_u]
    · rw [upd_ne _ _ (by omega), upd_ne _ _ (by omega)]; exact e1
    · rw [upd_at, T_sp, T_t, if_pos hj]
    · rw [upd_ne _ _ (by omega), upd_ne _ _ (by omega)]; exact e3
    · rw [upd_ne _ _ (by omega), upd_at, T_sp, T_e, if_pos hj]
    · intro q
      rw [T_sp, T_t, if_pos hj] at q
      omega
  | t + 1, j, y, e, e1, e3 => by
    have hk := hB.1
    have hj : ¬ j = k := by omega
    rw [T_sp]
    by_cases q : σ 4 1 j = nI 32
    · obtain ⟨y', h1, h2⟩ := c_sp hB t (j + 1) (upd y 3 (nI (j + 1))) (by omega) (by rw [upd_ne _ _ (by omega)]; exact e1) (upd_at _ _ _)
      refine ⟨y', ?_, by rw [if_pos q]; exact h2⟩
      rw [h_X3_readToken_8, cs_r, cs_r, e1, e3, if_neg (nI_ge (by omega) (by omega)), ck_n _ (show j < 120 by omega) (by omega), cs_b, nI_clamp (by omega), if_pos q, nw_s, nI_add, cs_u]
      exact h1
    · have c1 : upd y 4 (nI j) 1 = nI k := by rw [upd_ne _ _ (by omega)]; exact e1
      have c3 : upd y 4 (nI j) 3 = nI j := by rw [upd_ne _ _ (by omega)]; exact e3
      have tj : k - j = t + 1 := by omega
      rw [if_neg q]
      have st : H_X3_readToken_8 (cs σ y τ) = ts_bi (F_X3_isLetter [.inl (σ 4 1 j)] (cs σ (upd y 4 (nI j)) τ)) fun x17 σ16 => if x17 = nI 0 then (ts_ck (σ16 4 0 3) 120 <| ts_bi (F_X3_isDigit [.inl (σ16 4 1 ((σ16 4 0 3).toNatClampNeg))] σ16) fun x19 σ18 => if x19 = nI 0 then (ts_ck (σ18 4 0 3) 120 <| if (σ18 4 1 ((σ18 4 0 3).toNatClampNeg)) = (nI 59) then (ts_nw (ts_up σ18 4 0 2 (nI 3)) fun σ20 => ts_nw (ts_up σ20 4 0 4 ((σ20 4 0 4) + (nI 1))) fun σ21 => some (none, σ21)) else ts_nw (ts_up σ18 4 0 2 (nI 4)) fun σ22 => ts_nw (ts_up σ22 4 0 4 ((σ22 4 0 4) + (nI 1))) fun σ23 => some (none, σ23)) else ts_nw (ts_up σ18 4 0 2 (nI 2)) fun σ24 => ts_nw (ts_up σ24 4 0 5 (nI 0)) fun σ25 => H_X3_readToken_157 σ25) else ts_nw (ts_up σ16 4 0 2 (nI 1)) fun σ26 => H_X3_readToken_93 σ26 := by
        rw [h_X3_readToken_8, cs_r, cs_r, e1, e3, if_neg (nI_ge (by omega) (by omega)), ck_n _ (show j < 120 by omega) (by omega), cs_b, nI_clamp (by omega), if_neg q, nw_s, cs_u, cs_r, cs_r, c1, c3, if_pos (nI_lt (by omega) (by omega)), ck_n _ (show j < 120 by omega) (by omega), cs_b, nI_clamp (by omega)]
      rw [st]
      by_cases p1 : isL (σ 4 1 j)
      · have i1 : upd (upd y 4 (nI j)) 2 (nI 1) 1 = nI k := by rw [upd_ne _ _ (by omega)]; exact c1
        have i4 : upd (upd y 4 (nI j)) 2 (nI 1) 4 = nI j := by rw [upd_ne _ _ (by omega), upd_at]
        obtain ⟨y', h1, h2, h3, h4, h5⟩ := c_wd (σ := σ) (τ := τ) hk (t + 1) j (upd (upd y 4 (nI j)) 2 (nI 1)) (by omega) i1 i4
        refine ⟨y', by rw [let_t _ p1, bi_s, if_neg n10, nw_s, cs_u]; exact h1, by rw [h2]; exact i1, ?_, by rw [h4, upd_ne _ _ (by omega)]; exact c3, ?_, ?_⟩
        · rw [h3, upd_at, T_t, if_neg hj, if_pos p1]
        · rw [h5, T_e, if_neg hj, if_pos p1, tj]
        · intro z
          rw [T_t, if_neg hj, if_pos p1] at z
          omega
      · by_cases p2 : isD (σ 4 1 j)
        · have i1 : upd (upd (upd y 4 (nI j)) 2 (nI 2)) 5 (nI 0) 1 = nI k := by rw [upd_ne _ _ (by omega), upd_ne _ _ (by omega)]; exact c1
          have i4 : upd (upd (upd y 4 (nI j)) 2 (nI 2)) 5 (nI 0) 4 = nI j := by rw [upd_ne _ _ (by omega), upd_ne _ _ (by omega), upd_at]
          obtain ⟨y', h1, h2, h3, h4, h5, h6⟩ := c_nu (τ := τ) hB (t + 1) j 0 (upd (upd (upd y 4 (nI j)) 2 (nI 2)) 5 (nI 0)) (by omega) (by omega) i1 i4 (upd_at _ _ _)
          refine ⟨y', ?_, by rw [h2]; exact i1, ?_, by rw [h4, upd_ne _ _ (by omega), upd_ne _ _ (by omega)]; exact c3, ?_, ?_⟩
          · rw [let_f _ p1, bi_s, if_pos rfl, cs_r, c3, ck_n _ (show j < 120 by omega) (by omega), cs_b, nI_clamp (by omega), dig_t _ p2, bi_s, if_neg n10, nw_s, cs_u, nw_s, cs_u]; exact h1
          · rw [h3, upd_ne _ _ (by omega), upd_at, T_t, if_neg hj, if_neg p1, if_pos p2]
          · rw [h5, T_e, if_neg hj, if_neg p1, if_pos p2, tj]
          · intro z
            rw [h6, T_v, tj]
        · by_cases p3 : σ 4 1 j = nI 59
          · refine ⟨upd (upd (upd y 4 (nI j)) 2 (nI 3)) 4 (nI (j + 1)), ?_, by rw [upd_ne _ _ (by omega), upd_ne _ _ (by omega)]; exact c1, ?_, by rw [upd_ne _ _ (by omega), upd_ne _ _ (by omega)]; exact c3, ?_, ?_⟩
            · rw [let_f _ p1, bi_s, if_pos rfl, cs_r, c3, ck_n _ (show j < 120 by omega) (by omega), cs_b, nI_clamp (by omega), dig_f _ p2, bi_s, if_pos rfl, cs_r, c3, ck_n _ (show j < 120 by omega) (by omega), cs_b, nI_clamp (by omega), if_pos p3, nw_s, cs_u, nw_s, cs_r, upd_ne _ _ (show ¬ 4 = 2 by omega), upd_at, nI_add, cs_u]
            · rw [upd_ne _ _ (by omega), upd_at, T_t, if_neg hj, if_neg p1, if_neg p2, if_pos p3]
            · rw [upd_at, T_e, if_neg hj, if_neg p1, if_neg p2]
            · intro z
              rw [T_t, if_neg hj, if_neg p1, if_neg p2, if_pos p3] at z
              omega
          · refine ⟨upd (upd (upd y 4 (nI j)) 2 (nI 4)) 4 (nI (j + 1)), ?_, by rw [upd_ne _ _ (by omega), upd_ne _ _ (by omega)]; exact c1, ?_, by rw [upd_ne _ _ (by omega), upd_ne _ _ (by omega)]; exact c3, ?_, ?_⟩
            · rw [let_f _ p1, bi_s, if_pos rfl, cs_r, c3, ck_n _ (show j < 120 by omega) (by omega), cs_b, nI_clamp (by omega), dig_f _ p2, bi_s, if_pos rfl, cs_r, c3, ck_n _ (show j < 120 by omega) (by omega), cs_b, nI_clamp (by omega), if_neg p3, nw_s, cs_u, nw_s, cs_r, upd_ne _ _ (show ¬ 4 = 2 by omega), upd_at, nI_add, cs_u]
            · rw [upd_ne _ _ (by omega), upd_at, T_t, if_neg hj, if_neg p1, if_neg p2, if_neg p3]
            · rw [upd_at, T_e, if_neg hj, if_neg p1, if_neg p2]
            · intro z
              rw [T_t, if_neg hj, if_neg p1, if_neg p2, if_neg p3] at z
              omega
theorem c_tok0 {σ : ts_S} (τ : Nat → Nat → Int32) {k e : Nat} {y : Nat → Int32} (hB : TB (σ 4 1) k) (he : e ≤ k) (e1 : y 1 = nI k) (e4 : y 4 = nI e) : ∃ y', F_X3_readToken [.inr (.inr (.inl (4, 0)))] (cs σ y τ) = some (none, cs σ y' τ) ∧ YT y' (σ 4 1) k (T_sp (σ 4 1) (k - e) e) := by
  obtain ⟨y', h1, h2⟩ := c_sp (τ := τ) hB (k - e) e (upd y 3 (nI e)) (by omega) (by rw [upd_ne _ _ (by omega)]; exact e1) (upd_at _ _ _)
  exact ⟨y', by rw [e_X3_readToken, nw_s, cs_r, e4, cs_u]; exact h1, h2⟩
theorem c_tok {σ : ts_S} (τ : Nat → Nat → Int32) {k b : Nat} {y : Nat → Int32} (hB : TB (σ 4 1) k) (hb : b ≤ k) (Y : YT y (σ 4 1) k b) : ∃ y', F_X3_readToken [.inr (.inr (.inl (4, 0)))] (cs σ y τ) = some (none, cs σ y' τ) ∧ YT y' (σ 4 1) k (T_n (σ 4 1) k b) := c_tok0 τ hB (T_e_b _ hb).2 Y.1 Y.2.2.2.1
