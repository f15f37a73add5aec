/-! kinds: what is taken, held, given; words as bits -/
def S_bit (s w : Int32) : Int32 := (s >>> (w &&& nI 31)) &&& nI 1
theorem S_bit_01 (s w : Int32) : S_bit s w = nI 0 ∨ S_bit s w = nI 1 := by
  obtain ⟨j, hj, e⟩ := pk_andE (s >>> (w &&& nI 31)) (m := nI 1) 1 (by decide)
  unfold S_bit
  rw [e]
  rcases (show j = 0 ∨ j = 1 by omega) with rfl | rfl
  · exact Or.inl rfl
  · exact Or.inr rfl
theorem S_bit_n0 {s w : Int32} : ¬ S_bit s w = nI 0 ↔ S_bit s w = nI 1 := by
  rcases S_bit_01 s w with h | h <;> rw [h] <;> simp [n10, n01]
theorem S_bit_n1 {s w : Int32} : ¬ S_bit s w = nI 1 ↔ S_bit s w = nI 0 := by
  rcases S_bit_01 s w with h | h <;> rw [h] <;> simp [n10, n01]
def S_gr (s : Int32) : Nat → Int32
  | 0 => -1
  | n + 1 => if S_bit s (nI n) = nI 0 then S_gr s n else nI n
def S_ls (s : Int32) : Nat → Int32
  | 0 => -1
  | k + 1 => if S_bit s (nI (11 - k)) = nI 0 then S_ls s k else nI (11 - k)
theorem S_gr_or (s : Int32) : ∀ n, S_gr s n = -1 ∨ ∃ w, w < n ∧ S_gr s n = nI w
  | 0 => Or.inl rfl
  | n + 1 => by
    rw [S_gr]
    split
    · rcases S_gr_or s n with h | ⟨w, h1, h2⟩
      · exact Or.inl h
      · exact Or.inr ⟨w, by omega, h2⟩
    · exact Or.inr ⟨n, by omega, rfl⟩
theorem S_ls_or (s : Int32) : ∀ n, S_ls s n = -1 ∨ ∃ w, w < 12 ∧ S_ls s n = nI w
  | 0 => Or.inl rfl
  | n + 1 => by
    rw [S_ls]
    split
    · exact S_ls_or s n
    · exact Or.inr ⟨11 - n, by omega, rfl⟩
theorem c_gr_loop (s : Int32) (σ : ts_S) : ∀ n, n ≤ 12 → H_X0_greatest_3 s (nI n + (-1)) σ = some (some (.inl (S_gr s n)), σ)
  | 0, _ => by
    rw [h_X0_greatest_3, if_pos (by decide)]; rfl
  | n + 1, h => by
    rw [h_X0_greatest_3, pk_m1, if_neg (nn (by omega)), c_gr_loop s σ n (by omega), S_gr]
    show (if S_bit s (nI n) = nI 0 then _ else _) = _
    split <;> rfl
theorem m_gr_loop (s : Int32) (σ : ts_S) : ∀ n, n ≤ 12 → H_X5_greatest_3 s (nI n + (-1)) σ = some (some (.inl (S_gr s n)), σ)
  | 0, _ => by
    rw [h_X5_greatest_3, if_pos (by decide)]; rfl
  | n + 1, h => by
    rw [h_X5_greatest_3, pk_m1, if_neg (nn (by omega)), m_gr_loop s σ n (by omega), S_gr]
    show (if S_bit s (nI n) = nI 0 then _ else _) = _
    split <;> rfl
theorem c_greatest (s : Int32) (σ : ts_S) : F_X0_greatest [.inl s] σ = some (some (.inl (S_gr s 12)), σ) := by
  rw [e_X0_greatest, ← c_gr_loop s σ 12 (by omega), pk_m1]
theorem m_greatest (s : Int32) (σ : ts_S) : F_X5_greatest [.inl s] σ = some (some (.inl (S_gr s 12)), σ) := by
  rw [e_X5_greatest, ← m_gr_loop s σ 12 (by omega), pk_m1]
theorem c_ls_loop (s : Int32) (σ : ts_S) : ∀ k, k ≤ 12 → H_X0_least_2 s (nI (12 - k)) σ = some (some (.inl (S_ls s k)), σ)
  | 0, _ => by
    rw [h_X0_least_2, if_pos (by decide)]; rfl
  | k + 1, h => by
    have e : 12 - (k + 1) = 11 - k := by omega
    have e2 : 11 - k + 1 = 12 - k := by omega
    rw [e, h_X0_least_2, if_neg (nI_ge (by omega) (by omega)), nI_add, e2, c_ls_loop s σ k (by omega), S_ls]
    show (if S_bit s (nI (11 - k)) = nI 0 then _ else _) = _
    split <;> rfl
theorem m_ls_loop (s : Int32) (σ : ts_S) : ∀ k, k ≤ 12 → H_X5_least_2 s (nI (12 - k)) σ = some (some (.inl (S_ls s k)), σ)
  | 0, _ => by
    rw [h_X5_least_2, if_pos (by decide), if_pos rfl]; rfl
  | k + 1, h => by
    have e : 12 - (k + 1) = 11 - k := by omega
    have e2 : 11 - k + 1 = 12 - k := by omega
    rw [e, h_X5_least_2, if_neg (nI_ge (by omega) (by omega)), nI_add, e2, m_ls_loop s σ k (by omega), S_ls, if_neg (show ¬ nI (11 - k) = nI 12 from fun q => by
      have := (nI_eq (by omega) (by omega)).mp q
      omega)]
    show (if S_bit s (nI (11 - k)) = nI 0 then _ else _) = _
    split <;> rfl
theorem c_least (s : Int32) (σ : ts_S) : F_X0_least [.inl s] σ = some (some (.inl (S_ls s 12)), σ) := by
  rw [e_X0_least, ← c_ls_loop s σ 12 (by omega)]
theorem m_least (s : Int32) (σ : ts_S) : F_X5_least [.inl s] σ = some (some (.inl (S_ls s 12)), σ) := by
  rw [e_X5_least, ← m_ls_loop s σ 12 (by omega)]
/-- what a kind takes of a set, by what is kept -/
def S_tk (k s q : Int32) : Int32 :=
  if k = nI 1 then S_ls s 12 else if k = nI 6 then S_ls s 12 else
  if k = nI 2 then S_gr (s &&& nI 1365) 12 else
  if k = nI 3 then (if S_gr (s &&& nI 1365) 12 = -1 then S_gr s 12 else S_gr (s &&& nI 1365) 12) else
  if k = nI 4 then (if S_gr (s &&& nI 1365) 12 = -1 then (if S_gr s 12 = -1 then -1 else if S_bit q (S_gr s 12) = nI 0 then S_gr s 12 else -1) else if S_bit q (S_gr (s &&& nI 1365) 12) = nI 0 then S_gr (s &&& nI 1365) 12 else -1) else S_gr s 12
theorem ki_eq {a b : Nat} (ha : a < 2 ^ 31) (hb : b < 2 ^ 31) (h : ¬ a = b) : ¬ nI a = nI b := fun q => h ((nI_eq ha hb).mp q)
theorem S_tk_or (k s q : Int32) : S_tk k s q = -1 ∨ ∃ w, w < 12 ∧ S_tk k s q = nI w := by
  have h1 := S_gr_or s 12
  have h2 := S_gr_or (s &&& nI 1365) 12
  have h3 := S_ls_or s 12
  unfold S_tk
  repeat' split
  all_goals first | exact h3 | exact h2 | exact h1 | exact Or.inl rfl
theorem c_wordTaken (k s q : Int32) (σ : ts_S) : F_X0_wordTaken [.inl k, .inl s, .inl q] σ = some (some (.inl (S_tk k s q)), σ) := by
  simp only [e_X0_wordTaken, c_greatest, c_least, bi_s]
  have hb : ∀ x y : Int32, ((x >>> (y &&& nI 31)) &&& nI 1) = S_bit x y := fun _ _ => rfl
  simp only [hb]
  unfold S_tk
  by_cases h1 : k = nI 1
  · simp [h1]
  by_cases h6 : k = nI 6
  · subst h6
    simp [ki_eq (show 6 < 2 ^ 31 by omega) (show 1 < 2 ^ 31 by omega) (by omega), ki_eq (show 6 < 2 ^ 31 by omega) (show 2 < 2 ^ 31 by omega) (by omega), ki_eq (show 6 < 2 ^ 31 by omega) (show 3 < 2 ^ 31 by omega) (by omega), ki_eq (show 6 < 2 ^ 31 by omega) (show 4 < 2 ^ 31 by omega) (by omega), ki_eq (show 6 < 2 ^ 31 by omega) (show 5 < 2 ^ 31 by omega) (by omega)]
  simp only [h1, h6, if_false]
  by_cases h2 : k = nI 2
  · simp only [h2, if_true]; split <;> rfl
  by_cases h3 : k = nI 3
  · simp only [h2, h3, if_true, if_false]
    subst h3
    simp only [ki_eq (show 3 < 2 ^ 31 by omega) (show 2 < 2 ^ 31 by omega) (by omega), if_false]
    split <;> rfl
  simp only [h2, h3, if_false]
  by_cases h4 : k = nI 4
  · simp only [h4, if_true]
    split
    · next e =>
      split
      · next e2 => rw [e2]
      · split <;> rfl
    · split <;> rfl
  · simp only [h4, if_false]
    split <;> split <;> rfl
