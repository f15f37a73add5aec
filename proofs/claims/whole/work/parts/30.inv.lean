/-! the invariant between the component's groups and the model's; findings -/
def FN (a b : Nat → Int32) : Prop := (∀ k, k < 7 → a k = b (k + 1)) ∧ b 0 = a 0 + a 1 + a 2 + a 3 + a 4 + a 5 + a 6
def IM (x y : Int32) (τ : Nat → Nat → Int32) (ρ : Nat → Int32) : Prop := x = y ∧ (x = nI 0 ∨ x = nI 1) ∧ (x = nI 1 → RQ τ ρ)
def TP (n m : Int32) (f h : Nat → Int32) : Prop := n = m ∧ ∃ k, k ≤ 120 ∧ n = nI k ∧ ∀ i, i < k → f i = h i ∧ ∃ b, b < 256 ∧ f i = nI b
def SH (τ : Nat → Nat → Int32) (w z u : Nat → Int32) : Prop := ∀ s, s < 4 → τ 1 s = w s ∧ τ 2 s = z s ∧ (w s = nI 0 ∨ w s = nI 8 ∨ w s = nI 16 ∨ w s = nI 32) ∧ ∃ n, n ≤ 40 ∧ z s = nI n ∧ ∀ i, i < n → τ 3 (40 * s + i) = u (40 * s + i)
def INV2 (σ : ts_S) (μ : Nat → Nat → Int32) : Prop := FN (σ 0 1) (μ 4) ∧ RQ (σ 1) (μ 1) ∧ IM (σ 0 0 3) (μ 0 3) (σ 3) (μ 2) ∧ TP (σ 4 0 1) (μ 0 6) (σ 4 1) (μ 5) ∧ SH (σ 5) (μ 8) (μ 9) (μ 10)
def INV (σ : ts_S) : Prop := INV2 σ (σ 6)
theorem INV_of2 {σ : ts_S} {μ : Nat → Nat → Int32} (h : INV2 σ μ) : INV (va_up σ 6 μ) := h
theorem INV_q {σ : ts_S} (I : INV σ) {τ : Nat → Nat → Int32} {ρ : Nat → Int32} (R : RQ τ ρ) : INV (mr (va_up σ 1 τ) ρ) := by
  obtain ⟨h1, h2, h3, h4, h5⟩ := I
  exact ⟨h1, R, h3, h4, h5⟩
theorem INV_R {σ : ts_S} (I : INV σ) : RQ (σ 1) (σ 6 1) := I.2.1
def SIM (fx fm : List ts_V → ts_S → Option ts_A) (as : List ts_V) : Prop := ∀ σ, INV σ → ∃ (r : Int32) (σ1 σ2 : ts_S), fx (.inr (.inr (.inl (0, 0))) :: as) σ = some (some (.inl r), σ1) ∧ fm (.inr (.inr (.inl (6, 0))) :: as) σ1 = some (some (.inl r), σ2) ∧ INV σ2
theorem sim_mk {fx fm : List ts_V → ts_S → Option ts_A} {as : List ts_V} {σ σ1 σ2 : ts_S} {r : Int32} (h1 : fx (.inr (.inr (.inl (0, 0))) :: as) σ = some (some (.inl r), σ1)) (h2 : fm (.inr (.inr (.inl (6, 0))) :: as) σ1 = some (some (.inl r), σ2)) (h3 : INV σ2) : ∃ (r : Int32) (σ1 σ2 : ts_S), fx (.inr (.inr (.inl (0, 0))) :: as) σ = some (some (.inl r), σ1) ∧ fm (.inr (.inr (.inl (6, 0))) :: as) σ1 = some (some (.inl r), σ2) ∧ INV σ2 := ⟨r, σ1, σ2, h1, h2, h3⟩
def SIMl (fx fm : List ts_V → ts_S → Option ts_A) (as : List ts_V) : Prop := ∀ σ, INV σ → ∃ (r : Int64) (σ1 σ2 : ts_S), fx (.inr (.inr (.inl (0, 0))) :: as) σ = some (some (.inr (.inl r)), σ1) ∧ fm (.inr (.inr (.inl (6, 0))) :: as) σ1 = some (some (.inr (.inl r)), σ2) ∧ INV σ2
theorem sim_mkl {fx fm : List ts_V → ts_S → Option ts_A} {as : List ts_V} {σ σ1 σ2 : ts_S} {r : Int64} (h1 : fx (.inr (.inr (.inl (0, 0))) :: as) σ = some (some (.inr (.inl r)), σ1)) (h2 : fm (.inr (.inr (.inl (6, 0))) :: as) σ1 = some (some (.inr (.inl r)), σ2)) (h3 : INV σ2) : ∃ (r : Int64) (σ1 σ2 : ts_S), fx (.inr (.inr (.inl (0, 0))) :: as) σ = some (some (.inr (.inl r)), σ1) ∧ fm (.inr (.inr (.inl (6, 0))) :: as) σ1 = some (some (.inr (.inl r)), σ2) ∧ INV σ2 := ⟨r, σ1, σ2, h1, h2, h3⟩
/-! findings -/
theorem x_tell {k : Nat} (h : k < 7) (σ : ts_S) : F_X4_tell [.inr (.inr (.inl (0, 0))), .inl (nI k)] σ = some (some (.inl (Int32.ofNat (4293967295 - k))), va_up σ 0 (qu (σ 0) 1 k (σ 0 1 k + nI 1))) := by
  have e : Int32.ofNat 4293967295 - nI k = Int32.ofNat (4293967295 - k) := by
    have : ∀ k, k < 7 → Int32.ofNat 4293967295 - nI k = Int32.ofNat (4293967295 - k) := by decide
    exact this k h
  rw [e_X4_tell, below_n σ h (by omega), bi_s, if_neg n10, ck_n _ h (by omega), ck_n _ h (by omega), nw_s, nI_clamp (by omega), e, qu_up]
theorem m_find {k : Nat} (h : k < 7) (σ : ts_S) : F_X5_finding [.inr (.inr (.inl (6, 0))), .inl (Int32.ofNat (4293967295 - k))] σ = some (some (.inl (Int32.ofNat (4293967295 - k))), va_up σ 6 (qu (qu (σ 6) 4 (k + 1) (σ 6 4 (k + 1) + nI 1)) 4 0 (σ 6 4 0 + nI 1))) := by
  have e : Int32.ofNat 4293967295 - Int32.ofNat (4293967295 - k) + nI 1 = nI (k + 1) := by
    have : ∀ k, k < 7 → Int32.ofNat 4293967295 - Int32.ofNat (4293967295 - k) + nI 1 = nI (k + 1) := by decide
    exact this k h
  rw [e_X5_finding, e, ck_n _ (by omega) (by omega), ck_n _ (by omega) (by omega), nw_s, nI_clamp (by omega), ck_n _ (by omega) (by omega), ck_n _ (by omega) (by omega), nw_s, qu_up, qu_up, up_uu, up_at, qu_ne _ _ (by omega)]
theorem FN_one {a b : Nat → Int32} (F : FN a b) {k : Nat} (h : k < 7) : FN (upd a k (a k + nI 1)) (upd (upd b (k + 1) (b (k + 1) + nI 1)) 0 (b 0 + nI 1)) := by
  obtain ⟨f1, f2⟩ := F
  refine ⟨fun j hj => ?_, ?_⟩
  · rw [upd_ne _ _ (show ¬ j + 1 = 0 by omega)]
    by_cases e : j = k
    · subst e; rw [upd_at, upd_at, f1 j hj]
    · rw [upd_ne _ _ e, upd_ne _ _ (show ¬ j + 1 = k + 1 by omega)]; exact f1 j hj
  · rw [upd_at, f2]
    unfold upd
    rcases (show k = 0 ∨ k = 1 ∨ k = 2 ∨ k = 3 ∨ k = 4 ∨ k = 5 ∨ k = 6 by omega) with rfl | rfl | rfl | rfl | rfl | rfl | rfl <;> simp <;> ac_rfl
theorem INV_find {σ : ts_S} (I : INV σ) {k : Nat} (h : k < 7) : ∃ A : Nat → Nat → Int32, F_X4_tell [.inr (.inr (.inl (0, 0))), .inl (nI k)] σ = some (some (.inl (Int32.ofNat (4293967295 - k))), va_up σ 0 A) ∧ ∃ σ2, F_X5_finding [.inr (.inr (.inl (6, 0))), .inl (Int32.ofNat (4293967295 - k))] (va_up σ 0 A) = some (some (.inl (Int32.ofNat (4293967295 - k))), σ2) ∧ INV σ2 := by
  refine ⟨_, x_tell h σ, _, m_find h _, INV_of2 ?_⟩
  obtain ⟨h1, h2, h3, h4, h5⟩ := I
  refine ⟨?_, h2, h3, h4, h5⟩
  have := FN_one h1 h
  have ea : (va_up σ 0 (qu (σ 0) 1 k (σ 0 1 k + nI 1))) 0 1 = upd (σ 0 1) k (σ 0 1 k + nI 1) := by rw [up_at]; unfold qu; rw [up_at]
  have eb : qu (qu ((va_up σ 0 (qu (σ 0) 1 k (σ 0 1 k + nI 1))) 6) 4 (k + 1) ((va_up σ 0 (qu (σ 0) 1 k (σ 0 1 k + nI 1))) 6 4 (k + 1) + nI 1)) 4 0 ((va_up σ 0 (qu (σ 0) 1 k (σ 0 1 k + nI 1))) 6 4 0 + nI 1) 4 = upd (upd (σ 6 4) (k + 1) (σ 6 4 (k + 1) + nI 1)) 0 (σ 6 4 0 + nI 1) := by
    rw [up_ne _ _ (show ¬ 6 = 0 by omega)]
    unfold qu
    rw [up_at, up_at]
  rw [ea, eb]
  exact this
theorem find0 {σ : ts_S} (I : INV σ) : ∃ A : Nat → Nat → Int32, F_X4_tell [.inr (.inr (.inl (0, 0))), .inl (nI 0)] σ = some (some (.inl (Int32.ofNat 4293967295)), va_up σ 0 A) ∧ ∃ σ2, F_X5_finding [.inr (.inr (.inl (6, 0))), .inl (Int32.ofNat 4293967295)] (va_up σ 0 A) = some (some (.inl (Int32.ofNat 4293967295)), σ2) ∧ INV σ2 := INV_find I (k := 0) (by omega)
theorem find1 {σ : ts_S} (I : INV σ) : ∃ A : Nat → Nat → Int32, F_X4_tell [.inr (.inr (.inl (0, 0))), .inl (nI 1)] σ = some (some (.inl (Int32.ofNat 4293967294)), va_up σ 0 A) ∧ ∃ σ2, F_X5_finding [.inr (.inr (.inl (6, 0))), .inl (Int32.ofNat 4293967294)] (va_up σ 0 A) = some (some (.inl (Int32.ofNat 4293967294)), σ2) ∧ INV σ2 := INV_find I (k := 1) (by omega)
theorem find2 {σ : ts_S} (I : INV σ) : ∃ A : Nat → Nat → Int32, F_X4_tell [.inr (.inr (.inl (0, 0))), .inl (nI 2)] σ = some (some (.inl (Int32.ofNat 4293967293)), va_up σ 0 A) ∧ ∃ σ2, F_X5_finding [.inr (.inr (.inl (6, 0))), .inl (Int32.ofNat 4293967293)] (va_up σ 0 A) = some (some (.inl (Int32.ofNat 4293967293)), σ2) ∧ INV σ2 := INV_find I (k := 2) (by omega)
theorem find3 {σ : ts_S} (I : INV σ) : ∃ A : Nat → Nat → Int32, F_X4_tell [.inr (.inr (.inl (0, 0))), .inl (nI 3)] σ = some (some (.inl (Int32.ofNat 4293967292)), va_up σ 0 A) ∧ ∃ σ2, F_X5_finding [.inr (.inr (.inl (6, 0))), .inl (Int32.ofNat 4293967292)] (va_up σ 0 A) = some (some (.inl (Int32.ofNat 4293967292)), σ2) ∧ INV σ2 := INV_find I (k := 3) (by omega)
theorem find4 {σ : ts_S} (I : INV σ) : ∃ A : Nat → Nat → Int32, F_X4_tell [.inr (.inr (.inl (0, 0))), .inl (nI 4)] σ = some (some (.inl (Int32.ofNat 4293967291)), va_up σ 0 A) ∧ ∃ σ2, F_X5_finding [.inr (.inr (.inl (6, 0))), .inl (Int32.ofNat 4293967291)] (va_up σ 0 A) = some (some (.inl (Int32.ofNat 4293967291)), σ2) ∧ INV σ2 := INV_find I (k := 4) (by omega)
theorem find5 {σ : ts_S} (I : INV σ) : ∃ A : Nat → Nat → Int32, F_X4_tell [.inr (.inr (.inl (0, 0))), .inl (nI 5)] σ = some (some (.inl (Int32.ofNat 4293967290)), va_up σ 0 A) ∧ ∃ σ2, F_X5_finding [.inr (.inr (.inl (6, 0))), .inl (Int32.ofNat 4293967290)] (va_up σ 0 A) = some (some (.inl (Int32.ofNat 4293967290)), σ2) ∧ INV σ2 := INV_find I (k := 5) (by omega)
theorem find6 {σ : ts_S} (I : INV σ) : ∃ A : Nat → Nat → Int32, F_X4_tell [.inr (.inr (.inl (0, 0))), .inl (nI 6)] σ = some (some (.inl (Int32.ofNat 4293967289)), va_up σ 0 A) ∧ ∃ σ2, F_X5_finding [.inr (.inr (.inl (6, 0))), .inl (Int32.ofNat 4293967289)] (va_up σ 0 A) = some (some (.inl (Int32.ofNat 4293967289)), σ2) ∧ INV σ2 := INV_find I (k := 6) (by omega)
/-! the model's tests, by 'below' -/
theorem le_lt {a : Int32} {n : Nat} (hn : n + 1 < 2 ^ 31) : (nI 0 ≤ a ∧ a ≤ nI n) ↔ (nI 0 ≤ a ∧ a < nI (n + 1)) := by
  have := le_pred (a := a) (n := n + 1) hn
  rw [nI_m1'] at this
  exact this
theorem mw_t {a : Int32} {n : Nat} (σ : ts_S) (hn : n + 1 < 2 ^ 31) (h : nI 0 ≤ a ∧ a < nI (n + 1)) : F_X5_within [.inl a, .inl (nI 0), .inl (nI n)] σ = some (some (.inl (nI 1)), σ) := mwithin_t σ ((le_lt hn).mpr h)
theorem mw_f {a : Int32} {n : Nat} (σ : ts_S) (hn : n + 1 < 2 ^ 31) (h : ¬ (nI 0 ≤ a ∧ a < nI (n + 1))) : F_X5_within [.inl a, .inl (nI 0), .inl (nI n)] σ = some (some (.inl (nI 0)), σ) := mwithin_f σ (fun q => h ((le_lt hn).mp q))
theorem cw_t {a : Int32} {n : Nat} (σ : ts_S) (hn : n + 1 < 2 ^ 31) (h : nI 0 ≤ a ∧ a < nI (n + 1)) : F_X4_isWithin [.inl a, .inl (nI 0), .inl (nI n)] σ = some (some (.inl (nI 1)), σ) := within_t σ ((le_lt hn).mpr h)
theorem cw_f {a : Int32} {n : Nat} (σ : ts_S) (hn : n + 1 < 2 ^ 31) (h : ¬ (nI 0 ≤ a ∧ a < nI (n + 1))) : F_X4_isWithin [.inl a, .inl (nI 0), .inl (nI n)] σ = some (some (.inl (nI 0)), σ) := within_f σ (fun q => h ((le_lt hn).mp q))
theorem place_t {a : Int32} (σ : ts_S) (h : nI 0 ≤ a ∧ a < nI 6) : F_X5_isPlace [.inl a] σ = some (some (.inl (nI 1)), σ) := by
  rw [e_X5_isPlace, mw_t σ (by omega) h, bi_s, if_pos (Or.inr rfl)]
theorem place_f {a : Int32} (σ : ts_S) (h : ¬ (nI 0 ≤ a ∧ a < nI 6)) : F_X5_isPlace [.inl a] σ = some (some (.inl (nI 0)), σ) := by
  rw [e_X5_isPlace, mw_f σ (by omega) h, bi_s, if_pos (Or.inl rfl)]
theorem kind_t {a : Int32} (σ : ts_S) (h : nI 0 ≤ a ∧ a < nI 7) : F_X5_isKind [.inl a] σ = some (some (.inl (nI 1)), σ) := by
  rw [e_X5_isKind, mw_t σ (by omega) h, bi_s, if_pos (Or.inr rfl)]
theorem kind_f {a : Int32} (σ : ts_S) (h : ¬ (nI 0 ≤ a ∧ a < nI 7)) : F_X5_isKind [.inl a] σ = some (some (.inl (nI 0)), σ) := by
  rw [e_X5_isKind, mw_f σ (by omega) h, bi_s, if_pos (Or.inl rfl)]
theorem set_t {a : Int32} (σ : ts_S) (h : nI 0 ≤ a ∧ a < nI 4096) : F_X5_isSet [.inl a] σ = some (some (.inl (nI 1)), σ) := by
  rw [e_X5_isSet, mw_t σ (by omega) h, bi_s, if_pos (Or.inr rfl)]
theorem set_f {a : Int32} (σ : ts_S) (h : ¬ (nI 0 ≤ a ∧ a < nI 4096)) : F_X5_isSet [.inl a] σ = some (some (.inl (nI 0)), σ) := by
  rw [e_X5_isSet, mw_f σ (by omega) h, bi_s, if_pos (Or.inl rfl)]
theorem wordn_t {a : Int32} (σ : ts_S) (h : nI 0 ≤ a ∧ a < nI 12) : F_X5_isWordNumber [.inl a] σ = some (some (.inl (nI 1)), σ) := by
  rw [e_X5_isWordNumber, mw_t σ (by omega) h, bi_s, if_pos (Or.inr rfl)]
theorem wordn_f {a : Int32} (σ : ts_S) (h : ¬ (nI 0 ≤ a ∧ a < nI 12)) : F_X5_isWordNumber [.inl a] σ = some (some (.inl (nI 0)), σ) := by
  rw [e_X5_isWordNumber, mw_f σ (by omega) h, bi_s, if_pos (Or.inl rfl)]
theorem spot_t {a : Int32} (σ : ts_S) (h : nI 0 ≤ a ∧ a < nI 10) : F_X5_isSpot [.inl a] σ = some (some (.inl (nI 1)), σ) := by
  rw [e_X5_isSpot, mw_t σ (by omega) h, bi_s, if_pos (Or.inr rfl)]
theorem spot_f {a : Int32} (σ : ts_S) (h : ¬ (nI 0 ≤ a ∧ a < nI 10)) : F_X5_isSpot [.inl a] σ = some (some (.inl (nI 0)), σ) := by
  rw [e_X5_isSpot, mw_f σ (by omega) h, bi_s, if_pos (Or.inl rfl)]
theorem sheetn_t {a : Int32} (σ : ts_S) (h : nI 0 ≤ a ∧ a < nI 4) : F_X5_isSheet [.inl a] σ = some (some (.inl (nI 1)), σ) := by
  rw [e_X5_isSheet, mw_t σ (by omega) h, bi_s, if_pos (Or.inr rfl)]
theorem sheetn_f {a : Int32} (σ : ts_S) (h : ¬ (nI 0 ≤ a ∧ a < nI 4)) : F_X5_isSheet [.inl a] σ = some (some (.inl (nI 0)), σ) := by
  rw [e_X5_isSheet, mw_f σ (by omega) h, bi_s, if_pos (Or.inl rfl)]
theorem thought_t {a : Int32} (σ : ts_S) (h : nI 0 ≤ a ∧ a < nI 61) : F_X5_isThought [.inl a] σ = some (some (.inl (nI 1)), σ) := by
  rw [e_X5_isThought, mw_t σ (by omega) h, bi_s, if_pos (Or.inr rfl)]
theorem thought_f {a : Int32} (σ : ts_S) (h : ¬ (nI 0 ≤ a ∧ a < nI 61)) : F_X5_isThought [.inl a] σ = some (some (.inl (nI 0)), σ) := by
  rw [e_X5_isThought, mw_f σ (by omega) h, bi_s, if_pos (Or.inl rfl)]
theorem ms_t {a : Int32} (σ : ts_S) (W : WR (σ 6 1)) (h : nI 0 ≤ a ∧ a < nI (nS (σ 6 1))) : F_X5_isSill [.inr (.inr (.inl (6, 0))), .inl a] σ = some (some (.inl (nI 1)), σ) := by
  have := W.2.1
  exact m_isSill_t σ (by rw [this.1]; exact (le_pred (by omega)).mpr h)
theorem ms_f {a : Int32} (σ : ts_S) (W : WR (σ 6 1)) (h : ¬ (nI 0 ≤ a ∧ a < nI (nS (σ 6 1)))) : F_X5_isSill [.inr (.inr (.inl (6, 0))), .inl a] σ = some (some (.inl (nI 0)), σ) := by
  have := W.2.1
  exact m_isSill_f σ (by rw [this.1, le_pred (by omega)]; exact h)
theorem mp_t {a : Int32} (σ : ts_S) (W : WR (σ 6 1)) (h : nI 0 ≤ a ∧ a < nI (nP (σ 6 1))) : F_X5_isPerson [.inr (.inr (.inl (6, 0))), .inl a] σ = some (some (.inl (nI 1)), σ) := by
  have := W.2.2.1
  exact m_isPerson_t σ (by rw [this.1]; exact (le_pred (by omega)).mpr h)
theorem mp_f {a : Int32} (σ : ts_S) (W : WR (σ 6 1)) (h : ¬ (nI 0 ≤ a ∧ a < nI (nP (σ 6 1)))) : F_X5_isPerson [.inr (.inr (.inl (6, 0))), .inl a] σ = some (some (.inl (nI 0)), σ) := by
  have := W.2.2.1
  exact m_isPerson_f σ (by rw [this.1, le_pred (by omega)]; exact h)
theorem m_become {a : Nat} (v : Int32) (σ : ts_S) (ha : a < 111) : F_X5_become [.inr (.inr (.inl (6, 0))), .inl (nI a), .inl v] σ = some (some (.inl (σ 6 1 a)), mr σ (upd (σ 6 1) a v)) := by
  rw [e_X5_become, ck_n _ ha (by omega), ni_s, ck_n _ ha (by omega), nw_s, nI_clamp (by omega), mr_up]
theorem hq1 : ts_q 1 := Or.inl rfl
theorem hq2 : ts_q 2 := Or.inr (Or.inl rfl)
theorem hq3 : ts_q 3 := Or.inr (Or.inr rfl)
