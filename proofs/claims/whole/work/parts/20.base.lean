/-! pure rows: binds, checks, small numbers -/
theorem bi_s (x : Int32) (σ : ts_S) (f : Int32 → ts_S → Option ts_A) : ts_bi (some (some (.inl x), σ)) f = f x σ := rfl
theorem bv_s (σ : ts_S) (f : ts_S → Option ts_A) : ts_bv (some (none, σ)) f = f σ := rfl
theorem bl_s (x : Int64) (σ : ts_S) (f : Int64 → ts_S → Option ts_A) : ts_bl (some (some (.inr (.inl x)), σ)) f = f x σ := rfl
theorem bs_s (j : Nat) (σ : ts_S) (f : Nat → ts_S → Option ts_A) : ts_bs (some (some (.inr (.inr (.inr j))), σ)) f = f j σ := rfl
theorem nw_s (s : ts_S) (f : ts_S → Option ts_A) : ts_nw s f = f s := rfl
theorem ni_s (x : Int32) (f : Int32 → Option ts_A) : ts_ni x f = f x := rfl
theorem nj_s (x : Int64) (f : Int64 → Option ts_A) : ts_nj x f = f x := rfl
theorem ck_n {j n : Nat} (x : Option ts_A) (h : j < n) (hn : n < 2 ^ 31) : ts_ck (nI j) n x = x := if_neg (vp_in_nI h hn)
theorem n10 : ¬ nI 1 = nI 0 := by decide
theorem n01 : ¬ nI 0 = nI 1 := by decide
theorem nm {n : Nat} (h : n < 2 ^ 31) : ¬ nI n = -1 := by
  intro e
  have := congrArg Int32.toInt e
  rw [nI_toInt h] at this
  have e2 : (-1 : Int32).toInt = -1 := by decide
  omega
theorem nm' {n : Nat} (h : n < 2 ^ 31) : ¬ (-1 : Int32) = nI n := fun e => nm h e.symm
theorem nn {n : Nat} (h : n < 2 ^ 31) : ¬ nI n < nI 0 := nI_nlt (Nat.zero_le n) h
theorem nge {n : Nat} (h : n < 2 ^ 31) : nI 0 ≤ nI n := nI_le (Nat.zero_le n) h
theorem m1lt : (-1 : Int32) < nI 0 := by decide
theorem m1ge : ¬ nI 0 ≤ (-1 : Int32) := by decide
theorem m1clamp : (-1 : Int32).toNatClampNeg = 0 := by decide
theorem nI_m1' (n : Nat) : nI (n + 1) - nI 1 = nI n := by
  rw [pk_sub (by omega)]; rfl
theorem low_b : Int32.ofNat 4293967295 = -1000001 := by decide
/-! the tests -/
theorem below_t {a b : Int32} (σ : ts_S) (h : nI 0 ≤ a ∧ a < b) : F_X4_isBelow [.inl a, .inl b] σ = some (some (.inl (nI 1)), σ) := by
  rw [e_X4_isBelow, if_neg (Int32.not_lt.mpr h.1), if_neg (Int32.not_le.mpr h.2)]
theorem below_f {a b : Int32} (σ : ts_S) (h : ¬ (nI 0 ≤ a ∧ a < b)) : F_X4_isBelow [.inl a, .inl b] σ = some (some (.inl (nI 0)), σ) := by
  rw [e_X4_isBelow]
  by_cases h1 : a < nI 0
  · rw [if_pos h1]
  · rw [if_neg h1]
    by_cases h2 : b ≤ a
    · rw [if_pos h2]
    · exact absurd ⟨Int32.not_lt.mp h1, Int32.not_le.mp h2⟩ h
theorem within_t {a l h : Int32} (σ : ts_S) (q : l ≤ a ∧ a ≤ h) : F_X4_isWithin [.inl a, .inl l, .inl h] σ = some (some (.inl (nI 1)), σ) := by
  rw [e_X4_isWithin, if_neg (Int32.not_lt.mpr q.1), if_neg (Int32.not_lt.mpr q.2)]
theorem within_f {a l h : Int32} (σ : ts_S) (q : ¬ (l ≤ a ∧ a ≤ h)) : F_X4_isWithin [.inl a, .inl l, .inl h] σ = some (some (.inl (nI 0)), σ) := by
  rw [e_X4_isWithin]
  by_cases h1 : a < l
  · rw [if_pos h1]
  · rw [if_neg h1]
    by_cases h2 : h < a
    · rw [if_pos h2]
    · exact absurd ⟨Int32.not_lt.mp h1, Int32.not_lt.mp h2⟩ q
theorem mwithin_t {a l h : Int32} (σ : ts_S) (q : l ≤ a ∧ a ≤ h) : F_X5_within [.inl a, .inl l, .inl h] σ = some (some (.inl (nI 1)), σ) := by
  rw [e_X5_within, if_neg (Int32.not_lt.mpr q.1), if_neg (Int32.not_lt.mpr q.2)]
theorem mwithin_f {a l h : Int32} (σ : ts_S) (q : ¬ (l ≤ a ∧ a ≤ h)) : F_X5_within [.inl a, .inl l, .inl h] σ = some (some (.inl (nI 0)), σ) := by
  rw [e_X5_within]
  by_cases h1 : a < l
  · rw [if_pos h1]
  · rw [if_neg h1]
    by_cases h2 : h < a
    · rw [if_pos h2]
    · exact absurd ⟨Int32.not_lt.mp h1, Int32.not_lt.mp h2⟩ q
/-- a number in a range is one of its naturals -/
theorem in_of {a : Int32} {n : Nat} (hn : n < 2 ^ 31) (h : nI 0 ≤ a ∧ a < nI n) : ∃ j, j < n ∧ a = nI j := by
  obtain ⟨j, hj, rfl⟩ := nI_of (x := a) (by rw [← nI_0]; exact Int32.not_lt.mpr h.1)
  exact ⟨j, (nI_ltI hj hn).mp h.2, rfl⟩
theorem in_ofw {a : Int32} {n : Nat} (hn : n < 2 ^ 31) (h : nI 0 ≤ a ∧ a ≤ nI n) : ∃ j, j ≤ n ∧ a = nI j := by
  obtain ⟨j, hj, rfl⟩ := nI_of (x := a) (by rw [← nI_0]; exact Int32.not_lt.mpr h.1)
  exact ⟨j, (nI_leI hj hn).mp h.2, rfl⟩
theorem below_n {a b : Nat} (σ : ts_S) (h : a < b) (hb : b < 2 ^ 31) : F_X4_isBelow [.inl (nI a), .inl (nI b)] σ = some (some (.inl (nI 1)), σ) := below_t σ ⟨nge (by omega), nI_lt h hb⟩
theorem below_nf {a b : Nat} (σ : ts_S) (h : ¬ a < b) (ha : a < 2 ^ 31) : F_X4_isBelow [.inl (nI a), .inl (nI b)] σ = some (some (.inl (nI 0)), σ) := below_f σ (fun q => by
  have := (nI_ltI ha (by omega)).mp q.2
  omega)
theorem below_m {b : Int32} (σ : ts_S) : F_X4_isBelow [.inl (-1), .inl b] σ = some (some (.inl (nI 0)), σ) := below_f σ (fun q => m1ge q.1)
theorem min_e (a b : Int32) (σ : ts_S) : F_J9_min_7cf53 [.inl a, .inl b] σ = some (some (.inl (if b < a then b else a)), σ) := by
  rw [e_J9_min_7cf53]
  split <;> rfl
/-! the row of the model: places of a sill's and of a person's numbers -/
def sx (i f : Nat) : Nat := 21 + 9 * i + f
def px (p f : Nat) : Nat := 93 + 3 * p + f
def mr (σ : ts_S) (ρ : Nat → Int32) : ts_S := va_up σ 6 (va_up (σ 6) 1 ρ)
theorem mr_up (σ : ts_S) (j : Nat) (x : Int32) : ts_up σ 6 1 j x = mr σ (upd (σ 6 1) j x) := rfl
theorem mr_rd (σ : ts_S) (ρ : Nat → Int32) : (mr σ ρ) 6 1 = ρ := rfl
theorem up_uu {α : Type} (f : Nat → α) (k : Nat) (v w : α) : va_up (va_up f k v) k w = va_up f k w := bx_uu f k v w
theorem up_id {α : Type} (f : Nat → α) (k : Nat) : va_up f k (f k) = f := by
  funext j
  unfold va_up
  split
  · next h => rw [h]
  · rfl
theorem up_at {α : Type} (f : Nat → α) (k : Nat) (v : α) : va_up f k v k = v := if_pos rfl
theorem up_ne {α : Type} (f : Nat → α) {k j : Nat} (v : α) (h : ¬ j = k) : va_up f k v j = f j := if_neg h
theorem mr_mr (σ : ts_S) (a b : Nat → Int32) : mr (mr σ a) b = mr σ b := by
  show va_up (va_up σ 6 _) 6 (va_up (va_up σ 6 (va_up (σ 6) 1 a) 6) 1 b) = _
  rw [up_uu, up_at, up_uu]; rfl
theorem mr_id (σ : ts_S) : mr σ (σ 6 1) = σ := by
  show va_up σ 6 (va_up (σ 6) 1 (σ 6 1)) = σ
  rw [up_id, up_id]
theorem sx_lt {i f : Nat} (h : i < 8) (hf : f < 9) : sx i f < 93 := by unfold sx; omega
theorem px_lt {p f : Nat} (h : p < 6) (hf : f < 3) : px p f < 111 := by unfold px; omega
theorem m_sillAt {i f : Nat} (σ : ts_S) : F_X5_sillAt [.inl (nI i), .inl (nI f)] σ = some (some (.inl (nI (sx i f))), σ) := by
  rw [e_X5_sillAt, pk_mul, nI_add, nI_add]; rfl
theorem m_personAt {p f : Nat} (σ : ts_S) : F_X5_personAt [.inl (nI p), .inl (nI f)] σ = some (some (.inl (nI (px p f))), σ) := by
  rw [e_X5_personAt, pk_mul, nI_add, nI_add]; rfl
theorem m_sillIs {i f : Nat} (σ : ts_S) (h : i < 8) (hf : f < 9) : F_X5_sillIs [.inr (.inr (.inl (6, 0))), .inl (nI i), .inl (nI f)] σ = some (some (.inl (σ 6 1 (sx i f))), σ) := by
  have h1 := sx_lt h hf
  rw [e_X5_sillIs, m_sillAt, bi_s, ck_n _ (by omega) (by omega), nI_clamp (by omega)]
theorem m_personIs {p f : Nat} (σ : ts_S) (h : p < 6) (hf : f < 3) : F_X5_personIs [.inr (.inr (.inl (6, 0))), .inl (nI p), .inl (nI f)] σ = some (some (.inl (σ 6 1 (px p f))), σ) := by
  have h1 := px_lt h hf
  rw [e_X5_personIs, m_personAt, bi_s, ck_n _ (by omega) (by omega), nI_clamp (by omega)]
