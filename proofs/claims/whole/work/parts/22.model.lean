/-! the model's row: crossings and days, as functions of rows -/
def S_ks (f : Nat → Int32) : Nat → Int32
  | 0 => nI 0
  | m + 1 => S_ks f m ||| (nI 1 <<< (f m &&& nI 31))
def S_hd (k : Int32) : Int32 := if k = nI 1 then nI 4 else if k = nI 2 then nI 5 else if k = nI 3 then nI 4 else if k = nI 4 then nI 2 else if k = nI 5 then nI 3 else if k = nI 6 then nI 0 else nI 3
/-- from which place is given: of m words, by kind and wear -/
def S_gf (k w : Int32) (m : Nat) : Int32 := if m = 0 then -1 else if k = nI 2 then nI (m - 1) else if k = nI 3 then (if w - w / nI 3 * nI 3 = nI 0 then nI 0 else nI (m - 1)) else if k = nI 4 then (if w - w / nI 3 * nI 3 = nI 0 then nI 0 else nI (m - 1)) else if k = nI 5 then -1 else nI 0
theorem S_gf_or (k w : Int32) (m : Nat) : S_gf k w m = -1 ∨ ∃ j, j < m ∧ S_gf k w m = nI j := by
  unfold S_gf
  by_cases h : m = 0
  · rw [if_pos h]; exact Or.inl rfl
  · rw [if_neg h]
    repeat' split
    all_goals first | exact Or.inl rfl | exact Or.inr ⟨0, by omega, rfl⟩ | exact Or.inr ⟨m - 1, by omega, rfl⟩
/-- how many words a sill keeps -/
def nK (ρ : Nat → Int32) (i : Nat) : Nat := (ρ (sx i 3)).toNatClampNeg
def S_set (ρ : Nat → Int32) (i : Nat) : Int32 := S_ks (fun k => ρ (sx i (4 + k))) (nK ρ i)
def S_from (ρ : Nat → Int32) (i : Nat) : Int32 := S_gf (ρ (sx i 0)) (ρ (sx i 1)) (nK ρ i)
def S_gives (ρ : Nat → Int32) (i : Nat) : Int32 := if S_from ρ i = -1 then -1 else ρ (sx i (4 + (S_from ρ i).toNatClampNeg))
def S_takes (ρ : Nat → Int32) (i : Nat) (s : Int32) : Int32 := S_tk (ρ (sx i 0)) s (S_set ρ i)
/-- a sill of a row, well made -/
def okS (ρ : Nat → Int32) (i : Nat) : Prop := i < 8 ∧ (∃ m, m ≤ 5 ∧ ρ (sx i 3) = nI m)
theorem okS_k {ρ : Nat → Int32} {i : Nat} (h : okS ρ i) : ρ (sx i 3) = nI (nK ρ i) ∧ nK ρ i ≤ 5 := by
  obtain ⟨m, h1, h2⟩ := h.2
  unfold nK
  rw [h2, nI_clamp (by omega)]
  exact ⟨rfl, h1⟩
theorem m_holds {i : Nat} (σ : ts_S) (h : i < 8) : F_X5_holds [.inr (.inr (.inl (6, 0))), .inl (nI i)] σ = some (some (.inl (S_hd (σ 6 1 (sx i 0)))), σ) := by
  rw [e_X5_holds, m_sillIs σ h (by omega), bi_s]
  unfold S_hd
  repeat' split
  all_goals rfl
theorem m_ks_loop {i : Nat} (σ : ts_S) (h : okS (σ 6 1) i) : ∀ n j, j + n = nK (σ 6 1) i → H_X5_keptSet_4 (nI i) (S_ks (fun k => σ 6 1 (sx i (4 + k))) j) (nI j) σ = some (some (.inl (S_set (σ 6 1) i)), σ)
  | 0, j, e => by
    obtain ⟨h1, h2⟩ := okS_k h
    rw [h_X5_keptSet_4, m_sillIs σ h.1 (by omega), bi_s, h1, if_pos (nI_le (by omega) (by omega)), S_set, ← e]; rfl
  | n + 1, j, e => by
    obtain ⟨h1, h2⟩ := okS_k h
    rw [h_X5_keptSet_4, m_sillIs σ h.1 (by omega), bi_s, h1, if_neg (nI_ge (by omega) (by omega)), nI_add, m_sillIs σ h.1 (by omega), bi_s, ni_s, nI_add]
    exact m_ks_loop σ h n (j + 1) (by omega)
theorem m_keptSet {i : Nat} (σ : ts_S) (h : okS (σ 6 1) i) : F_X5_keptSet [.inr (.inr (.inl (6, 0))), .inl (nI i)] σ = some (some (.inl (S_set (σ 6 1) i)), σ) := by
  rw [e_X5_keptSet]
  exact m_ks_loop σ h (nK (σ 6 1) i) 0 (by omega)
theorem m_givesFrom {i : Nat} (σ : ts_S) (h : okS (σ 6 1) i) : F_X5_givesFrom [.inr (.inr (.inl (6, 0))), .inl (nI i)] σ = some (some (.inl (S_from (σ 6 1) i)), σ) := by
  obtain ⟨h1, h2⟩ := okS_k h
  simp only [e_X5_givesFrom, m_sillIs σ h.1 (show 3 < 9 by omega), m_sillIs σ h.1 (show 0 < 9 by omega), m_sillIs σ h.1 (show 1 < 9 by omega), bi_s, ni_s, h1]
  unfold S_from S_gf
  by_cases hm : nK (σ 6 1) i = 0
  · rw [hm, if_neg (by decide), if_pos rfl]
    have e : nI 0 - nI 1 = -1 := by decide
    rw [e]
    repeat' split
    all_goals rfl
  · obtain ⟨m, hm2⟩ : ∃ m, nK (σ 6 1) i = m + 1 := ⟨nK (σ 6 1) i - 1, by omega⟩
    rw [hm2, nI_m1', if_pos (nge (by omega)), if_neg (show ¬ m + 1 = 0 by omega), Nat.add_sub_cancel]
    repeat' split
    all_goals rfl
theorem S_from_or (ρ : Nat → Int32) (i : Nat) : S_from ρ i = -1 ∨ ∃ j, j < nK ρ i ∧ S_from ρ i = nI j := S_gf_or _ _ _
theorem m_gives {i : Nat} (σ : ts_S) (h : okS (σ 6 1) i) : F_X5_gives [.inr (.inr (.inl (6, 0))), .inl (nI i)] σ = some (some (.inl (S_gives (σ 6 1) i)), σ) := by
  obtain ⟨h1, h2⟩ := okS_k h
  rw [e_X5_gives, m_givesFrom σ h, bi_s]
  unfold S_gives
  rcases S_from_or (σ 6 1) i with e | ⟨j, hj, e⟩
  · rw [e, if_neg m1ge, if_pos rfl]
  · rw [e, if_pos (nge (by omega)), if_neg (nm (by omega)), nI_add, m_sillIs σ h.1 (by omega), bi_s, nI_clamp (by omega)]
theorem m_takesOf {i : Nat} (s : Int32) (σ : ts_S) (h : okS (σ 6 1) i) : F_X5_takesOf [.inr (.inr (.inl (6, 0))), .inl (nI i), .inl s] σ = some (some (.inl (S_takes (σ 6 1) i s)), σ) := by
  simp only [e_X5_takesOf, m_greatest, m_least, m_sillIs σ h.1 (show 0 < 9 by omega), m_keptSet σ h, bi_s]
  have hb : ∀ x y : Int32, ((x >>> (y &&& nI 31)) &&& nI 1) = S_bit x y := fun _ _ => rfl
  simp only [hb]
  unfold S_takes S_tk
  generalize σ 6 1 (sx i 0) = k
  generalize S_set (σ 6 1) i = q
  have hk : k = nI 1 ∨ k = nI 2 ∨ k = nI 3 ∨ k = nI 4 ∨ k = nI 5 ∨ k = nI 6 ∨ (¬ k = nI 1 ∧ ¬ k = nI 2 ∧ ¬ k = nI 3 ∧ ¬ k = nI 4 ∧ ¬ k = nI 5 ∧ ¬ k = nI 6) := by
    by_cases h1 : k = nI 1
    · exact Or.inl h1
    by_cases h2 : k = nI 2
    · exact Or.inr (Or.inl h2)
    by_cases h3 : k = nI 3
    · exact Or.inr (Or.inr (Or.inl h3))
    by_cases h4 : k = nI 4
    · exact Or.inr (Or.inr (Or.inr (Or.inl h4)))
    by_cases h5 : k = nI 5
    · exact Or.inr (Or.inr (Or.inr (Or.inr (Or.inl h5))))
    by_cases h6 : k = nI 6
    · exact Or.inr (Or.inr (Or.inr (Or.inr (Or.inr (Or.inl h6)))))
    exact Or.inr (Or.inr (Or.inr (Or.inr (Or.inr (Or.inr ⟨h1, h2, h3, h4, h5, h6⟩)))))
  have hB : ∀ x y : Int32, (S_bit x y = nI 1) = ¬ (S_bit x y = nI 0) := fun x y => propext S_bit_n0.symm
  rcases S_gr_or (s &&& nI 1365) 12 with e | ⟨w, hw, e⟩
  · rcases S_gr_or s 12 with e2 | ⟨w2, hw2, e2⟩
    · rcases hk with rfl | rfl | rfl | rfl | rfl | rfl | ⟨h1, h2, h3, h4, h5, h6⟩ <;> simp (disch := omega) [e, e2, hB, nI_eq, m1ge, m1lt, *]
    · rcases hk with rfl | rfl | rfl | rfl | rfl | rfl | ⟨h1, h2, h3, h4, h5, h6⟩ <;> simp (disch := omega) [e, e2, hB, nI_eq, m1ge, m1lt, nn, nm, nge, *]
      split <;> rfl
  · rcases hk with rfl | rfl | rfl | rfl | rfl | rfl | ⟨h1, h2, h3, h4, h5, h6⟩ <;> simp (disch := omega) [e, hB, nI_eq, m1ge, m1lt, nn, nm, nge, *]
    split <;> rfl
