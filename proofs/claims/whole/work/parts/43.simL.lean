/-! sheets -/
theorem SH_one {τ τ' : Nat → Nat → Int32} {w w' z z' u u' : Nat → Int32} (H : SH τ w z u) {s : Nat} (hs : s < 4) (ho : ∀ r, r < 4 → ¬ r = s → τ' 1 r = τ 1 r ∧ τ' 2 r = τ 2 r ∧ w' r = w r ∧ z' r = z r ∧ ∀ i, i < 40 → τ' 3 (40 * r + i) = τ 3 (40 * r + i) ∧ u' (40 * r + i) = u (40 * r + i)) (hv : τ' 1 s = w' s ∧ τ' 2 s = z' s ∧ (w' s = nI 0 ∨ w' s = nI 8 ∨ w' s = nI 16 ∨ w' s = nI 32) ∧ ∃ n, n ≤ 40 ∧ z' s = nI n ∧ ∀ i, i < n → τ' 3 (40 * s + i) = u' (40 * s + i)) : SH τ' w' z' u' := by
  intro r hr
  by_cases e : r = s
  · subst e; exact hv
  · obtain ⟨o1, o2, o3, o4, o5⟩ := ho r hr e
    obtain ⟨b1, b2, b3, n, hn, bn, bu⟩ := H r hr
    refine ⟨by rw [o1, o3]; exact b1, by rw [o2, o4]; exact b2, by rw [o3]; exact b3, n, hn, by rw [o4]; exact bn, fun i hi => ?_⟩
    rw [(o5 i (by omega)).1, (o5 i (by omega)).2]; exact bu i hi
theorem x_lay_l {s n : Nat} (b : Int32) (hs : s < 4) (hn : n ≤ 40) : ∀ t j (σ : ts_S), j + t = n → ∃ f : Nat → Int32, H_X2_layOut_17 (nI s) b (nI n) (nI j) σ = some (none, va_up σ 5 (va_up (σ 5) 3 f)) ∧ (∀ i, i < n → (j ≤ i ∨ σ 5 3 (40 * s + i) = nI 0) → f (40 * s + i) = nI 0) ∧ ∀ a, ¬ (40 * s ≤ a ∧ a < 40 * s + 40) → f a = σ 5 3 a
  | 0, j, σ, e => ⟨σ 5 3, by rw [h_X2_layOut_17, if_pos (nI_le (by omega) (by omega)), up_id, up_id], fun i h1 h2 => h2.elim (fun h => by omega) id, fun a _ => rfl⟩
  | t + 1, j, σ, e => by
    obtain ⟨f, e1, h1, h2⟩ := x_lay_l b hs hn t (j + 1) (va_up σ 5 (qu (σ 5) 3 (40 * s + j) (nI 0))) (by omega)
    rw [h_X2_layOut_17, if_neg (nI_ge (by omega) (by omega)), pk_mul, nI_add, ck_n _ (by omega) (by omega), nw_s, nI_clamp (by omega), Nat.mul_comm s 40, qu_up, nI_add]
    have r3 : (va_up σ 5 (qu (σ 5) 3 (40 * s + j) (nI 0))) 5 3 = upd (σ 5 3) (40 * s + j) (nI 0) := by rw [up_at]; unfold qu; rw [up_at]
    rw [r3] at h1 h2
    rw [up_uu, up_at] at e1
    unfold qu at e1
    rw [up_uu] at e1
    refine ⟨f, e1, fun i hi ho => h1 i hi ?_, fun a ha => ?_⟩
    · by_cases q : i = j
      · subst q; exact Or.inr (upd_at _ _ _)
      · rcases ho with ho | ho
        · exact Or.inl (by omega)
        · exact Or.inr (by rw [upd_ne _ _ (by omega)]; exact ho)
    · rw [h2 a ha, upd_ne _ _ (by omega)]
theorem x_layOut {s n : Nat} (b : Int32) (hs : s < 4) (hn : n ≤ 40) (σ : ts_S) : ∃ f : Nat → Int32, F_X2_layOut [.inr (.inr (.inl (5, 0))), .inl (nI s), .inl b, .inl (nI n)] σ = some (none, va_up σ 5 (va_up (qu (qu (σ 5) 1 s b) 2 s (nI n)) 3 f)) ∧ (∀ i, i < n → f (40 * s + i) = nI 0) ∧ ∀ a, ¬ (40 * s ≤ a ∧ a < 40 * s + 40) → f a = σ 5 3 a := by
  obtain ⟨f, e1, h1, h2⟩ := x_lay_l b hs hn n 0 (va_up σ 5 (qu (qu (σ 5) 1 s b) 2 s (nI n))) (by omega)
  rw [up_uu, up_at] at e1
  refine ⟨f, ?_, fun i hi => h1 i hi (Or.inl (by omega)), h2⟩
  rw [e_X2_layOut, ck_n _ hs (by omega), nw_s, nI_clamp (by omega), ck_n _ hs (by omega), nw_s, qu_up, qu_up, up_uu, up_at]
  exact e1
theorem m_lay_l {s : Nat} (v2 v3 : Int32) (hs : s < 4) : ∀ t j (σ : ts_S), j + t = 40 → ∃ f : Nat → Int32, H_X5_sheet_86 (nI s) v2 v3 (nI j) σ = some (some (.inl (σ 6 9 s)), va_up σ 6 (va_up (σ 6) 10 f)) ∧ (∀ i, i < 40 → (j ≤ i ∨ σ 6 10 (40 * s + i) = nI 0) → f (40 * s + i) = nI 0) ∧ ∀ a, ¬ (40 * s ≤ a ∧ a < 40 * s + 40) → f a = σ 6 10 a
  | 0, j, σ, e => ⟨σ 6 10, by rw [h_X5_sheet_86, if_pos (nI_le (by omega) (by omega)), ck_n _ hs (by omega), nI_clamp (by omega), up_id, up_id], fun i h1 h2 => h2.elim (fun h => by omega) id, fun a _ => rfl⟩
  | t + 1, j, σ, e => by
    obtain ⟨f, e1, h1, h2⟩ := m_lay_l v2 v3 hs t (j + 1) (va_up σ 6 (qu (σ 6) 10 (40 * s + j) (nI 0))) (by omega)
    rw [h_X5_sheet_86, if_neg (nI_ge (by omega) (by omega)), pk_mul, nI_add, ck_n _ (by omega) (by omega), nw_s, nI_clamp (by omega), qu_up, nI_add]
    have r3 : (va_up σ 6 (qu (σ 6) 10 (40 * s + j) (nI 0))) 6 10 = upd (σ 6 10) (40 * s + j) (nI 0) := by rw [up_at]; unfold qu; rw [up_at]
    have r9 : (va_up σ 6 (qu (σ 6) 10 (40 * s + j) (nI 0))) 6 9 s = σ 6 9 s := rfl
    rw [r3] at h1 h2
    rw [up_uu, r9, up_at] at e1
    unfold qu at e1
    rw [up_uu] at e1
    refine ⟨f, e1, fun i hi ho => h1 i hi ?_, fun a ha => ?_⟩
    · by_cases q : i = j
      · subst q; exact Or.inr (upd_at _ _ _)
      · rcases ho with ho | ho
        · exact Or.inl (by omega)
        · exact Or.inr (by rw [upd_ne _ _ (by omega)]; exact ho)
    · rw [h2 a ha, upd_ne _ _ (by omega)]
theorem sheet_core {σ : ts_S} (I : INV σ) {s n : Nat} (b v2 v3 : Int32) (hs : s < 4) (hn : n ≤ 40) (hb : b = nI 0 ∨ b = nI 8 ∨ b = nI 16 ∨ b = nI 32) : ∃ τ μ, F_X2_layOut [.inr (.inr (.inl (5, 0))), .inl (nI s), .inl b, .inl (nI n)] σ = some (none, va_up σ 5 τ) ∧ τ 2 s = nI n ∧ H_X5_sheet_86 (nI s) v2 v3 (nI 0) (ts_up (ts_up (va_up σ 5 τ) 6 8 s b) 6 9 s (nI n)) = some (some (.inl (nI n)), va_up (va_up σ 5 τ) 6 μ) ∧ INV (va_up (va_up σ 5 τ) 6 μ) := by
  obtain ⟨f, e1, f1, f2⟩ := x_layOut b hs hn σ
  obtain ⟨h, e2, h1, h2⟩ := m_lay_l v2 v3 hs 40 0 (ts_up (ts_up (va_up σ 5 (va_up (qu (qu (σ 5) 1 s b) 2 s (nI n)) 3 f)) 6 8 s b) 6 9 s (nI n)) (by omega)
  rw [qu_up, qu_up, up_uu, up_at] at e2 h1 h2
  rw [up_uu, up_at, qu_at] at e2
  obtain ⟨i1, i2, i3, i4, i5⟩ := I
  refine ⟨va_up (qu (qu (σ 5) 1 s b) 2 s (nI n)) 3 f, va_up (qu (qu (σ 6) 8 s b) 9 s (nI n)) 10 h, e1, ?_, ?_, ?_⟩
  · rw [up_ne _ _ (by omega), qu_at]
  · rw [qu_up, qu_up, up_uu, up_at]; exact e2
  · refine ⟨i1, i2, i3, i4, ?_⟩
    refine SH_one i5 hs (fun r hr hne => ⟨?_, ?_, ?_, ?_, fun i hi => ⟨?_, ?_⟩⟩) ⟨?_, ?_, ?_, n, hn, ?_, fun i hi => ?_⟩
    · show qu (qu (σ 5) 1 s b) 2 s (nI n) 1 r = _
      rw [qu_ne _ _ (by omega), qu_ne _ _ (by omega)]
    · show qu (qu (σ 5) 1 s b) 2 s (nI n) 2 r = _
      rw [qu_ne _ _ (by omega), qu_ne _ _ (by omega)]
    · show qu (qu (σ 6) 8 s b) 9 s (nI n) 8 r = _
      rw [qu_ne _ _ (by omega), qu_ne _ _ (by omega)]
    · show qu (qu (σ 6) 8 s b) 9 s (nI n) 9 r = _
      rw [qu_ne _ _ (by omega), qu_ne _ _ (by omega)]
    · exact f2 _ (by omega)
    · exact h2 _ (by omega)
    · show qu (qu (σ 5) 1 s b) 2 s (nI n) 1 s = qu (qu (σ 6) 8 s b) 9 s (nI n) 8 s
      rw [qu_ne _ _ (show ¬ (1 = 2 ∧ s = s) by omega), qu_at, qu_ne _ _ (show ¬ (8 = 9 ∧ s = s) by omega), qu_at]
    · show qu (qu (σ 5) 1 s b) 2 s (nI n) 2 s = qu (qu (σ 6) 8 s b) 9 s (nI n) 9 s
      rw [qu_at, qu_at]
    · show qu (qu (σ 6) 8 s b) 9 s (nI n) 8 s = nI 0 ∨ qu (qu (σ 6) 8 s b) 9 s (nI n) 8 s = nI 8 ∨ qu (qu (σ 6) 8 s b) 9 s (nI n) 8 s = nI 16 ∨ qu (qu (σ 6) 8 s b) 9 s (nI n) 8 s = nI 32
      rw [qu_ne _ _ (by omega), qu_at]; exact hb
    · show qu (qu (σ 6) 8 s b) 9 s (nI n) 9 s = _
      rw [qu_at]
    · show f (40 * s + i) = h (40 * s + i)
      rw [f1 i hi, h1 i (by omega) (Or.inl (by omega))]
theorem sim_sheet (a1 a2 a3 : Int32) : SIM F_X4_sheet F_X5_sheet [.inl a1, .inl a2, .inl a3] := by
  intro σ I
  by_cases h1 : nI 0 ≤ a1 ∧ a1 < nI 4
  · by_cases q : a2 = nI 0 ∨ a2 = nI 8 ∨ a2 = nI 16 ∨ a2 = nI 32
    · by_cases h2 : nI 0 ≤ a3
      · by_cases h3 : a3 ≤ nI 40
        · obtain ⟨s, hs, rfl⟩ := in_of (by omega) h1
          obtain ⟨n, hn, rfl⟩ := in_ofw (by omega) ⟨h2, h3⟩
          by_cases q0 : a2 = nI 0
          · subst q0
            obtain ⟨τ, μ, e1, t2, e2, J⟩ := sheet_core I (nI 0) (nI 0) (nI n) hs (show 0 ≤ 40 by omega) (Or.inl rfl)
            apply sim_mk (r := (nI 0)) (σ1 := va_up σ 5 τ) (h3 := J)
            · simp only [e_X4_sheet, below_t σ h1, bi_s, n10, reduceIte, h2, h3, e1, bv_s, ck_n _ hs (show 4 < 2 ^ 31 by omega), nI_clamp (show s < 2 ^ 31 by omega), up_at, t2]
            · simp only [e_X5_sheet, sheetn_t _ h1, bi_s, n10, reduceIte, h2, h3, nw_s, ck_n _ hs (show 4 < 2 ^ 31 by omega), nI_clamp (show s < 2 ^ 31 by omega), e2]
          · obtain ⟨τ, μ, e1, t2, e2, J⟩ := sheet_core I a2 a2 (nI n) hs hn q
            apply sim_mk (r := (nI n)) (σ1 := va_up σ 5 τ) (h3 := J)
            · rcases q with rfl | rfl | rfl | rfl
              · exact absurd rfl q0
              · simp only [e_X4_sheet, below_t σ h1, bi_s, n10, k3n (a := 8) (b := 0) rfl, reduceIte, h2, h3, e1, bv_s, ck_n _ hs (show 4 < 2 ^ 31 by omega), nI_clamp (show s < 2 ^ 31 by omega), up_at, t2]
              · simp only [e_X4_sheet, below_t σ h1, bi_s, n10, k3n (a := 16) (b := 0) rfl, k3n (a := 16) (b := 8) rfl, reduceIte, h2, h3, e1, bv_s, ck_n _ hs (show 4 < 2 ^ 31 by omega), nI_clamp (show s < 2 ^ 31 by omega), up_at, t2]
              · simp only [e_X4_sheet, below_t σ h1, bi_s, n10, k3n (a := 32) (b := 0) rfl, k3n (a := 32) (b := 8) rfl, k3n (a := 32) (b := 16) rfl, reduceIte, h2, h3, e1, bv_s, ck_n _ hs (show 4 < 2 ^ 31 by omega), nI_clamp (show s < 2 ^ 31 by omega), up_at, t2]
            · rcases q with rfl | rfl | rfl | rfl
              · exact absurd rfl q0
              · simp only [e_X5_sheet, sheetn_t _ h1, bi_s, n10, k3n (a := 8) (b := 0) rfl, reduceIte, h2, h3, nw_s, ck_n _ hs (show 4 < 2 ^ 31 by omega), nI_clamp (show s < 2 ^ 31 by omega), e2]
              · simp only [e_X5_sheet, sheetn_t _ h1, bi_s, n10, k3n (a := 16) (b := 0) rfl, k3n (a := 16) (b := 8) rfl, reduceIte, h2, h3, nw_s, ck_n _ hs (show 4 < 2 ^ 31 by omega), nI_clamp (show s < 2 ^ 31 by omega), e2]
              · simp only [e_X5_sheet, sheetn_t _ h1, bi_s, n10, k3n (a := 32) (b := 0) rfl, k3n (a := 32) (b := 8) rfl, k3n (a := 32) (b := 16) rfl, reduceIte, h2, h3, nw_s, ck_n _ hs (show 4 < 2 ^ 31 by omega), nI_clamp (show s < 2 ^ 31 by omega), e2]
        · obtain ⟨A, e1, σ2, e2, I2⟩ := find0 I
          apply sim_mk (r := (Int32.ofNat 4293967295)) (σ1 := va_up σ 0 A) (h3 := I2)
          · simp only [e_X4_sheet, below_t σ h1, bi_s, n10, reduceIte, h2, h3, e1, ite_self]
          · simp only [e_X5_sheet, sheetn_t _ h1, bi_s, n10, reduceIte, h2, h3, e2, ite_self]
      · obtain ⟨A, e1, σ2, e2, I2⟩ := find6 I
        obtain ⟨A0, e0, -⟩ := find0 I
        apply sim_mk (r := (Int32.ofNat 4293967289)) (σ1 := va_up σ 0 A) (h3 := I2)
        · rcases q with rfl | rfl | rfl | rfl
          · simp only [e_X4_sheet, below_t σ h1, bi_s, n10, reduceIte, h2, e1]
          · simp only [e_X4_sheet, below_t σ h1, bi_s, n10, k3n (a := 8) (b := 0) rfl, reduceIte, h2, e1]
          · simp only [e_X4_sheet, below_t σ h1, bi_s, n10, k3n (a := 16) (b := 0) rfl, k3n (a := 16) (b := 8) rfl, reduceIte, h2, e1]
          · simp only [e_X4_sheet, below_t σ h1, bi_s, n10, k3n (a := 32) (b := 0) rfl, k3n (a := 32) (b := 8) rfl, k3n (a := 32) (b := 16) rfl, reduceIte, h2, e1]
        · rcases q with rfl | rfl | rfl | rfl
          · simp only [e_X5_sheet, sheetn_t _ h1, bi_s, n10, reduceIte, h2, e2]
          · simp only [e_X5_sheet, sheetn_t _ h1, bi_s, n10, k3n (a := 8) (b := 0) rfl, reduceIte, h2, e2]
          · simp only [e_X5_sheet, sheetn_t _ h1, bi_s, n10, k3n (a := 16) (b := 0) rfl, k3n (a := 16) (b := 8) rfl, reduceIte, h2, e2]
          · simp only [e_X5_sheet, sheetn_t _ h1, bi_s, n10, k3n (a := 32) (b := 0) rfl, k3n (a := 32) (b := 8) rfl, k3n (a := 32) (b := 16) rfl, reduceIte, h2, e2]
    · obtain ⟨A, e1, σ2, e2, I2⟩ := find0 I
      have q1 : ¬ a2 = nI 0 := fun e => q (Or.inl e)
      have q2 : ¬ a2 = nI 8 := fun e => q (Or.inr (Or.inl e))
      have q5 : ¬ a2 = nI 16 := fun e => q (Or.inr (Or.inr (Or.inl e)))
      have q6 : ¬ a2 = nI 32 := fun e => q (Or.inr (Or.inr (Or.inr e)))
      apply sim_mk (r := (Int32.ofNat 4293967295)) (σ1 := va_up σ 0 A) (h3 := I2)
      · simp only [e_X4_sheet, below_t σ h1, bi_s, n10, q1, q2, q5, q6, reduceIte, e1]
      · simp only [e_X5_sheet, sheetn_t _ h1, bi_s, n10, q1, q2, q5, q6, reduceIte, e2]
  · obtain ⟨A, e1, σ2, e2, I2⟩ := find0 I
    apply sim_mk (r := (Int32.ofNat 4293967295)) (σ1 := va_up σ 0 A) (h3 := I2)
    · simp only [e_X4_sheet, below_f σ h1, bi_s, reduceIte, e1, ite_self]
    · simp only [e_X5_sheet, sheetn_f _ h1, bi_s, reduceIte, e2]
/-! write -/
theorem x_low (w v : Int32) (σ : ts_S) : ∃ x, F_X2_lowestBits [.inl w, .inl v] σ = some (some (.inl x), σ) ∧ ∀ σ', F_X5_cutTo [.inl v, .inl w] σ' = some (some (.inl x), σ') := by
  by_cases h1 : w = nI 8
  · exact ⟨_, by rw [e_X2_lowestBits, if_pos h1], fun σ' => by rw [e_X5_cutTo, if_pos h1]⟩
  · by_cases h2 : w = nI 16
    · exact ⟨_, by rw [e_X2_lowestBits, if_neg h1, if_pos h2], fun σ' => by rw [e_X5_cutTo, if_neg h1, if_pos h2]⟩
    · exact ⟨_, by rw [e_X2_lowestBits, if_neg h1, if_neg h2], fun σ' => by rw [e_X5_cutTo, if_neg h1, if_neg h2]⟩
theorem sim_write (a1 a2 a3 : Int32) : SIM F_X4_write F_X5_write [.inl a1, .inl a2, .inl a3] := by
  intro σ I
  by_cases h1 : nI 0 ≤ a1 ∧ a1 < nI 4
  · obtain ⟨s, hs, rfl⟩ := in_of (by omega) h1
    obtain ⟨b1, b2, b3, n, hn, bn, bu⟩ := SH_s I hs
    by_cases hm : σ 6 8 s = nI 0
    · obtain ⟨A, e1, σ2, e2, I2⟩ := find5 I
      apply sim_mk (h3 := I2)
      · rw [e_X4_write, below_t σ h1, bi_s, if_neg n10, x_missing_t hs σ (by rw [b1]; exact hm), bi_s, if_neg n10, e1, bi_s]
      · have hm' : (va_up σ 0 A) 6 8 s = nI 0 := hm
        rw [e_X5_write, sheetn_t _ h1, bi_s, if_neg n10, ck_n _ hs (by omega), nI_clamp (by omega), if_pos hm', e2, bi_s]
    · by_cases h2 : nI 0 ≤ a2 ∧ a2 < nI n
      · obtain ⟨i, hi, rfl⟩ := in_of (by omega) h2
        obtain ⟨x, x1, x2⟩ := x_low (σ 6 8 s) a3 σ
        obtain ⟨i1, i2, i3, i4, i5⟩ := I
        apply sim_mk (r := (nI 1)) (σ1 := va_up σ 5 (qu (σ 5) 3 (40 * s + i) x)) (σ2 := va_up (va_up σ 5 (qu (σ 5) 3 (40 * s + i) x)) 6 (qu (σ 6) 10 (40 * s + i) x))
        · rw [e_X4_write, below_t σ h1, bi_s, if_neg n10, x_missing_f hs σ (by rw [b1]; exact hm), bi_s, if_pos rfl, ck_n _ hs (by omega), nI_clamp (by omega), b2, bn, below_t σ h2, bi_s, if_neg n10, e_X2_put, ck_n _ hs (by omega), nI_clamp (show s < 2 ^ 31 by omega), b1, x1, bi_s, pk_mul, nI_add, ck_n _ (by omega) (by omega), nw_s, nI_clamp (by omega), bv_s, Nat.mul_comm s 40, qu_up]
        · have hm' : ¬ (va_up σ 5 (qu (σ 5) 3 (40 * s + i) x)) 6 8 s = nI 0 := hm
          have bn' : (va_up σ 5 (qu (σ 5) 3 (40 * s + i) x)) 6 9 s = nI n := bn
          have e8 : (va_up σ 5 (qu (σ 5) 3 (40 * s + i) x)) 6 8 s = σ 6 8 s := rfl
          rw [e_X5_write, sheetn_t _ h1, bi_s, if_neg n10, ck_n _ hs (by omega), nI_clamp (show s < 2 ^ 31 by omega), if_neg hm', ck_n _ hs (by omega), bn', mwithin_t _ ((le_pred (by omega)).mpr h2), bi_s, if_neg n10, ck_n _ hs (by omega), e8, x2, bi_s, pk_mul, nI_add, ck_n _ (by omega) (by omega), nw_s, nI_clamp (by omega), qu_up]; rfl
        · refine ⟨i1, i2, i3, i4, ?_⟩
          refine SH_one i5 hs (fun r hr hne => ⟨rfl, rfl, rfl, rfl, fun j hj => ⟨?_, ?_⟩⟩) ⟨b1, b2, b3, n, hn, bn, fun j hj => ?_⟩
          · show qu (σ 5) 3 (40 * s + i) x 3 (40 * r + j) = _
            rw [qu_ne _ _ (by omega)]
          · show qu (σ 6) 10 (40 * s + i) x 10 (40 * r + j) = _
            rw [qu_ne _ _ (by omega)]
          · show qu (σ 5) 3 (40 * s + i) x 3 (40 * s + j) = qu (σ 6) 10 (40 * s + i) x 10 (40 * s + j)
            by_cases e : j = i
            · subst e; rw [qu_at, qu_at]
            · rw [qu_ne _ _ (by omega), qu_ne _ _ (by omega)]; exact bu j hj
      · obtain ⟨A, e1, σ2, e2, I2⟩ := find0 I
        apply sim_mk (h3 := I2)
        · rw [e_X4_write, below_t σ h1, bi_s, if_neg n10, x_missing_f hs σ (by rw [b1]; exact hm), bi_s, if_pos rfl, ck_n _ hs (by omega), nI_clamp (by omega), b2, bn, below_f σ h2, bi_s, if_pos rfl, e1, bi_s]
        · have hm' : ¬ (va_up σ 0 A) 6 8 s = nI 0 := hm
          have bn' : (va_up σ 0 A) 6 9 s = nI n := bn
          rw [e_X5_write, sheetn_t _ h1, bi_s, if_neg n10, ck_n _ hs (by omega), nI_clamp (by omega), if_neg hm', ck_n _ hs (by omega), bn', mwithin_f _ (fun z => h2 ((le_pred (by omega)).mp z)), bi_s, if_pos rfl, e2, bi_s]
  · obtain ⟨A, e1, σ2, e2, I2⟩ := find0 I
    apply sim_mk (h3 := I2)
    · rw [e_X4_write, below_f σ h1, bi_s, if_pos rfl, e1, bi_s]
    · rw [e_X5_write, sheetn_f _ h1, bi_s, if_pos rfl, e2, bi_s]
