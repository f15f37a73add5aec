/-! trials: the model's row aside and back, the component's trial -/
def cpR (ρ α : Nat → Int32) : Nat → Int32 := fun a => if a < 111 then ρ a else α a
def cpJ (ρ α : Nat → Int32) (j : Nat) : Nat → Int32 := fun a => if a < j then ρ a else α a
theorem cpJ_0 (ρ α : Nat → Int32) : cpJ ρ α 0 = α := by
  funext a
  unfold cpJ
  rw [if_neg (by omega)]
theorem cpJ_s (ρ α : Nat → Int32) (j : Nat) : upd (cpJ ρ α j) j (ρ j) = cpJ ρ α (j + 1) := by
  funext a
  unfold upd cpJ
  by_cases h : a = j
  · rw [if_pos h, if_pos (by omega), h]
  · rw [if_neg h]
    by_cases h2 : a < j
    · rw [if_pos h2, if_pos (by omega)]
    · rw [if_neg h2, if_neg (by omega)]
theorem m_copy_l {c1 c2 : Nat} (hc : ts_mq c1 c2) (σ : ts_S) : ∀ t j, j + t = 111 → H_X5_copyRow_2 c1 c2 (nI j) (va_up σ 6 (va_up (σ 6) c2 (cpJ (σ 6 c1) (σ 6 c2) j))) = some (none, va_up σ 6 (va_up (σ 6) c2 (cpR (σ 6 c1) (σ 6 c2))))
  | 0, j, e => by
    rw [h_X5_copyRow_2 hc, if_pos (nI_le (by omega) (by omega))]
    rw [show j = 111 by omega]; rfl
  | t + 1, j, e => by
    have hn : ¬ c1 = c2 := by rcases hc with ⟨rfl, rfl⟩ | ⟨rfl, rfl⟩ | ⟨rfl, rfl⟩ | ⟨rfl, rfl⟩ <;> omega
    rw [h_X5_copyRow_2 hc, if_neg (nI_ge (by omega) (by omega)), ck_n _ (by omega) (by omega), ck_n _ (by omega) (by omega), nw_s, nI_clamp (by omega), qu_up, up_uu, up_at, up_ne _ _ hn, nI_add]
    unfold qu
    rw [up_at, up_uu, cpJ_s]
    exact m_copy_l hc σ t (j + 1) (by omega)
theorem m_copy {c1 c2 : Nat} (hc : ts_mq c1 c2) (σ : ts_S) : F_X5_copyRow [.inr (.inr (.inl (6, c1))), .inr (.inr (.inl (6, c2)))] σ = some (none, va_up σ 6 (va_up (σ 6) c2 (cpR (σ 6 c1) (σ 6 c2)))) := by
  have := m_copy_l hc σ 111 0 (by omega)
  rw [cpJ_0, up_id, up_id] at this
  rw [e_X5_copyRow hc]
  exact this
def ma (σ : ts_S) (α : Nat → Int32) : ts_S := va_up σ 6 (va_up (σ 6) 3 α)
theorem mq13 : ts_mq 1 3 := Or.inr (Or.inr (Or.inl ⟨rfl, rfl⟩))
theorem mq31 : ts_mq 3 1 := Or.inr (Or.inr (Or.inr ⟨rfl, rfl⟩))
theorem m_save (σ : ts_S) : F_X5_copyRow [.inr (.inr (.inl (6, 1))), .inr (.inr (.inl (6, 3)))] σ = some (none, ma σ (cpR (σ 6 1) (σ 6 3))) := m_copy mq13 σ
theorem m_load (σ : ts_S) (ρ α : Nat → Int32) (h : σ 6 3 = cpR ρ α) (hh : ∀ a, 111 ≤ a → σ 6 1 a = ρ a) : F_X5_copyRow [.inr (.inr (.inl (6, 3))), .inr (.inr (.inl (6, 1)))] σ = some (none, mr σ ρ) := by
  rw [m_copy mq31 σ]
  have e : cpR (σ 6 3) (σ 6 1) = ρ := by
    funext a
    unfold cpR
    by_cases q : a < 111
    · rw [if_pos q, h]
      unfold cpR
      rw [if_pos q]
    · rw [if_neg q]; exact hh a (by omega)
  rw [e]; rfl
theorem m_back (x : Int32) (σ : ts_S) (ρ α : Nat → Int32) (h : σ 6 3 = cpR ρ α) (hh : ∀ a, 111 ≤ a → σ 6 1 a = ρ a) : F_X5_putBack [.inr (.inr (.inl (6, 0))), .inl x] σ = some (some (.inl x), mr σ ρ) := by
  rw [e_X5_putBack, m_load σ ρ α h hh, bv_s]
/-! nothing beyond the row changes -/
theorem S_in_hi {ρ : Nat → Int32} {p i : Nat} (hp : p < 6) (hi : i < 8) (hk : nK ρ i ≤ 5) {a : Nat} (ha : 111 ≤ a) : (S_in ρ p i).2 a = ρ a := by
  unfold S_in
  split
  · exact upd_ne _ _ (by unfold px; omega)
  · dsimp only
    split
    · rw [upd_ne _ _ (by omega), upd_ne _ _ (by unfold px; omega), upd_ne _ _ (by unfold px; omega)]
    · unfold S_lay
      rw [upd_ne _ _ (by unfold sx; omega), nK_upd (by unfold px sx; omega), nK_upd (by unfold px sx; omega), upd_ne _ _ (by unfold sx; omega), upd_ne _ _ (by unfold px; omega), upd_ne _ _ (by unfold px; omega)]
theorem S_out_hi {ρ : Nat → Int32} {p i : Nat} (hp : p < 6) (hi : i < 8) (hk : nK ρ i ≤ 5) {a : Nat} (ha : 111 ≤ a) : (S_out ρ p i).2 a = ρ a := by
  unfold S_out
  rcases S_from_or ρ i with e | ⟨j, hj, e⟩
  · rw [if_pos e]
    exact upd_ne _ _ (by unfold px; omega)
  · rw [e, if_neg (nm (by omega)), nI_clamp (by omega)]
    dsimp only
    unfold S_oz
    split
    · rw [upd_ne _ _ (by omega), upd_ne _ _ (by unfold sx; omega), S_sh_out _ (by unfold sx; omega), upd_ne _ _ (by unfold px; omega)]
    · rw [upd_ne _ _ (by unfold px; omega), upd_ne _ _ (by unfold sx; omega), S_sh_out _ (by unfold sx; omega), upd_ne _ _ (by unfold px; omega)]
theorem S_cr_hi {ρ : Nat → Int32} (W : WR ρ) {p i : Nat} (hp : p < nP ρ) (hi : i < nS ρ) {a : Nat} (ha : 111 ≤ a) : (S_cr ρ p i).2 a = ρ a := by
  have p6 := WR_p6 W hp
  have i8 := WR_i8 W hi
  have ok := okS_k (WR_okS W hi)
  unfold S_cr S_cz
  split
  · dsimp only
    rw [upd_ne _ _ (by unfold px; omega), upd_ne _ _ (by unfold sx; omega), S_in_hi p6 i8 ok.2 ha]
  · dsimp only
    rw [upd_ne _ _ (by unfold px; omega), upd_ne _ _ (by unfold sx; omega), S_out_hi p6 i8 ok.2 ha]
theorem S_day_hi {ρ : Nat → Int32} (W : WR ρ) {a : Nat} (ha : 111 ≤ a) : S_day ρ a = ρ a := by
  unfold S_day
  rw [upd_ne _ _ (by omega)]
  unfold S_d1
  split
  · next h => exact S_cr_hi W h.1 h.2.1 ha
  · rfl
theorem S_days_hi {ρ : Nat → Int32} (W : WR ρ) {a : Nat} (ha : 111 ≤ a) : ∀ n, S_days ρ n a = ρ a
  | 0 => rfl
  | n + 1 => by rw [S_days, S_day_hi (WR_days W n) ha, S_days_hi W ha n]
theorem S_cr_np {ρ : Nat → Int32} (W : WR ρ) {p i : Nat} (hp : p < nP ρ) (hi : i < nS ρ) : nS (S_cr ρ p i).2 = nS ρ ∧ nP (S_cr ρ p i).2 = nP ρ := by
  have i8 := WR_i8 W hi
  have ok := okS_k (WR_okS W hi)
  unfold S_cr S_cz
  split
  · dsimp only
    rw [nS_upd (by unfold px; omega), nP_upd (by unfold px; omega), nS_upd (by unfold sx; omega), nP_upd (by unfold sx; omega)]
    exact S_in_n ρ i8 ok.2
  · dsimp only
    rw [nS_upd (by unfold px; omega), nP_upd (by unfold px; omega), nS_upd (by unfold sx; omega), nP_upd (by unfold sx; omega)]
    exact S_out_n ρ
theorem S_day_np {ρ : Nat → Int32} (W : WR ρ) : nS (S_day ρ) = nS ρ ∧ nP (S_day ρ) = nP ρ := by
  unfold S_day
  rw [nS_upd (by omega), nP_upd (by omega)]
  unfold S_d1
  split
  · next h => exact S_cr_np W h.1 h.2.1
  · exact ⟨rfl, rfl⟩
theorem S_days_np {ρ : Nat → Int32} (W : WR ρ) : ∀ n, nS (S_days ρ n) = nS ρ ∧ nP (S_days ρ n) = nP ρ
  | 0 => ⟨rfl, rfl⟩
  | n + 1 => by
    obtain ⟨h1, h2⟩ := S_day_np (WR_days W n)
    obtain ⟨h3, h4⟩ := S_days_np W n
    rw [S_days, h1, h2, h3, h4]
    exact ⟨rfl, rfl⟩
theorem m_behind {a n : Nat} (σ : ts_S) (ha : a < 111) (hn : n < 2 ^ 31) (W : WR (σ 6 1)) : F_X5_behind [.inr (.inr (.inl (6, 0))), .inl (nI a), .inl (nI n)] σ = some (some (.inl (S_days (σ 6 1) n a)), ma σ (cpR (σ 6 1) (σ 6 3))) := by
  have e1 : F_X5_daysGo [.inr (.inr (.inl (6, 0))), .inl (nI n)] (ma σ (cpR (σ 6 1) (σ 6 3))) = some (none, mr (ma σ (cpR (σ 6 1) (σ 6 3))) (S_days (σ 6 1) n)) := m_daysGo (ma σ (cpR (σ 6 1) (σ 6 3))) hn W
  rw [e_X5_behind, m_save, bv_s, e1, bv_s, ck_n _ ha (by omega), nI_clamp (by omega), mr_rd, m_back _ (mr (ma σ (cpR (σ 6 1) (σ 6 3))) (S_days (σ 6 1) n)) (σ 6 1) (σ 6 3) rfl (fun b hb => S_days_hi W hb n), bi_s, mr_mr]
  exact congrArg (fun z => some (some (Sum.inl _), z)) (mr_id (ma σ _))
/-! the component's copy of a quarter -/
theorem cpy_n {n : Nat} (hn : n < 2 ^ 31) (σ : ts_S) (k g c : Nat) (f : ts_S → Option ts_A) : ts_cpy σ n n k c (nI 0) g c (nI 0) (nI n) f = f (va_up σ g (va_up (σ g) c (va_cpy (σ k c) (σ g c) 0 0 n))) := by
  unfold ts_cpy
  rw [if_neg, nI_clamp hn]
  · rfl
  · rw [nI_clamp hn, ← nI_0]
    intro q
    rcases q with q | q | q | q | q
    · exact absurd q (by decide)
    · exact absurd q (by decide)
    · exact absurd q (nn hn)
    · have : (nI 0).toNatClampNeg = 0 := by decide
      omega
    · have : (nI 0).toNatClampNeg = 0 := by decide
      omega
def EQT (τ a : Nat → Nat → Int32) : Prop := (τ 0 1 = a 0 1 ∧ τ 0 2 = a 0 2 ∧ τ 0 3 = a 0 3 ∧ τ 0 4 = a 0 4 ∧ τ 0 10 = a 0 10) ∧ (∀ j, j < 6 → τ 1 j = a 1 j) ∧ (∀ c j, 2 ≤ c → c ≤ 5 → j < 8 → τ c j = a c j) ∧ (∀ j, j < 40 → τ 6 j = a 6 j) ∧ (∀ c j, 7 ≤ c → c ≤ 9 → j < 6 → τ c j = a c j) ∧ (∀ j, j < 10 → τ 10 j = a 10 j)
theorem cp_in {f h : Nat → Int32} {n j : Nat} (q : j < n) : va_cpy f h 0 0 n j = f j := by
  unfold va_cpy
  rw [if_pos (by omega)]
  congr 1
  omega
theorem c_become {g k : Nat} (hg : ts_bq g k) (σ : ts_S) : ∃ τ, F_X1_become [.inr (.inr (.inl (g, 0))), .inr (.inr (.inl (k, 0)))] σ = some (none, va_up σ g τ) ∧ EQT τ (σ k) := by
  have hn : ¬ k = g := by rcases hg with ⟨rfl, rfl⟩ | ⟨rfl, rfl⟩ | ⟨rfl, rfl⟩ | ⟨rfl, rfl⟩ <;> omega
  rw [e_X1_become hg]
  simp only [cpy_n (n := 6) (by omega), cpy_n (n := 8) (by omega), cpy_n (n := 40) (by omega), cpy_n (n := 10) (by omega), nw_s, qu_up, up_uu, up_at, up_ne _ _ hn]
  refine ⟨_, rfl, ⟨?_, ?_, ?_, ?_, ?_⟩, ?_, ?_, ?_, ?_, ?_⟩
  · rfl
  · rfl
  · rfl
  · rfl
  · rfl
  · exact fun j hj => cp_in hj
  · intro c j h1 h2 hj
    rcases (show c = 2 ∨ c = 3 ∨ c = 4 ∨ c = 5 by omega) with rfl | rfl | rfl | rfl <;> exact cp_in hj
  · exact fun j hj => cp_in hj
  · intro c j h1 h2 hj
    rcases (show c = 7 ∨ c = 8 ∨ c = 9 by omega) with rfl | rfl | rfl <;> exact cp_in hj
  · exact fun j hj => cp_in hj
theorem RQ_e {τ τ' : Nat → Nat → Int32} {ρ : Nat → Int32} (E : EQT τ' τ) (R : RQ τ ρ) : RQ τ' ρ := by
  obtain ⟨⟨e1, e2, e3, e4, e10⟩, el, es, ek, ep, eq⟩ := E
  obtain ⟨W, ⟨a0, a1, a2, a3, a4⟩, hl, hp, hS, hP⟩ := R
  refine ⟨W, ⟨by rw [e2]; exact a0, by rw [e4]; exact a1, by rw [e3]; exact a2, by rw [e10]; exact a3, by rw [e1]; exact a4⟩, fun i hi => by rw [el i hi]; exact hl i hi, fun i hi => by rw [eq i hi]; exact hp i hi, fun i hi => ?_, fun p hp' => ?_⟩
  · have i8 := WR_i8 W hi
    have ok := okS_k (WR_okS W hi)
    obtain ⟨b0, b1, b2, b3, b4⟩ := hS i hi
    exact ⟨by rw [es 2 i (by omega) (by omega) i8]; exact b0, by rw [es 3 i (by omega) (by omega) i8]; exact b1, by rw [es 4 i (by omega) (by omega) i8]; exact b2, by rw [es 5 i (by omega) (by omega) i8]; exact b3, fun k hk => by rw [ek _ (by omega)]; exact b4 k hk⟩
  · have p6 := WR_p6 W hp'
    obtain ⟨b0, b1, b2⟩ := hP p hp'
    exact ⟨by rw [ep 7 p (by omega) (by omega) p6]; exact b0, by rw [ep 8 p (by omega) (by omega) p6]; exact b1, by rw [ep 9 p (by omega) (by omega) p6]; exact b2⟩
theorem c_begin {ρ : Nat → Int32} (σ : ts_S) (R : RQ (σ 1) ρ) : ∃ τ, F_X4_beginTrial [.inr (.inr (.inl (0, 0)))] σ = some (none, va_up σ 2 τ) ∧ RQ τ ρ := by
  obtain ⟨τ, e1, E⟩ := c_become (Or.inl ⟨rfl, rfl⟩ : ts_bq 2 1) σ
  exact ⟨τ, by rw [e_X4_beginTrial, e1, bv_s], RQ_e E R⟩
/-! findings behind a trial -/
theorem find_g {σ : ts_S} {μ : Nat → Nat → Int32} (I : INV2 σ μ) {k : Nat} (h : k < 7) : ∃ A : Nat → Nat → Int32, F_X4_tell [.inr (.inr (.inl (0, 0))), .inl (nI k)] σ = some (some (.inl (Int32.ofNat (4293967295 - k))), va_up σ 0 A) ∧ ∃ σ2, F_X5_finding [.inr (.inr (.inl (6, 0))), .inl (Int32.ofNat (4293967295 - k))] (va_up (va_up σ 0 A) 6 μ) = some (some (.inl (Int32.ofNat (4293967295 - k))), σ2) ∧ INV σ2 := by
  refine ⟨_, x_tell h σ, _, m_find h _, ?_⟩
  obtain ⟨h1, h2, h3, h4, h5⟩ := I
  have := FN_one h1 h
  rw [up_uu, up_at]
  refine ⟨?_, h2, h3, h4, h5⟩
  have ea : (va_up (va_up σ 0 (qu (σ 0) 1 k (σ 0 1 k + nI 1))) 6 (qu (qu μ 4 (k + 1) (μ 4 (k + 1) + nI 1)) 4 0 (μ 4 0 + nI 1))) 0 1 = upd (σ 0 1) k (σ 0 1 k + nI 1) := by
    rw [up_ne _ _ (show ¬ 0 = 6 by omega), up_at]
    unfold qu
    rw [up_at]
  have eb : (va_up (va_up σ 0 (qu (σ 0) 1 k (σ 0 1 k + nI 1))) 6 (qu (qu μ 4 (k + 1) (μ 4 (k + 1) + nI 1)) 4 0 (μ 4 0 + nI 1))) 6 4 = upd (upd (μ 4) (k + 1) (μ 4 (k + 1) + nI 1)) 0 (μ 4 0 + nI 1) := by
    rw [up_at]
    unfold qu
    rw [up_at, up_at]
  rw [ea, eb]
  exact this
noncomputable def fin3 (r : Int32) (σ : ts_S) : Option ts_A := if r = -1 then ts_bi (F_X4_tell [.inr (.inr (.inl (0, 0))), .inl (nI 3)] σ) fun x σ1 => some (some (.inl x), σ1) else some (some (.inl r), σ)
noncomputable def mfin (r : Int32) (σ : ts_S) : Option ts_A := ts_bi (F_X5_orNone [.inr (.inr (.inl (6, 0))), .inl r] σ) fun x σ1 => some (some (.inl x), σ1)
theorem sim_fin {fx fm : List ts_V → ts_S → Option ts_A} {as : List ts_V} {σ : ts_S} {τ : Nat → Nat → Int32} {r : Int32} (I : INV σ) (hr : r = -1 ∨ ∃ n, n < 2 ^ 31 ∧ r = nI n) (hx : fx (.inr (.inr (.inl (0, 0))) :: as) σ = fin3 r (va_up σ 2 τ)) (hm : ∀ σ1 : ts_S, σ1 6 = σ 6 → σ1 5 = σ 5 → ∃ α, fm (.inr (.inr (.inl (6, 0))) :: as) σ1 = mfin r (ma σ1 α)) : ∃ (r : Int32) (σ1 σ2 : ts_S), fx (.inr (.inr (.inl (0, 0))) :: as) σ = some (some (.inl r), σ1) ∧ fm (.inr (.inr (.inl (6, 0))) :: as) σ1 = some (some (.inl r), σ2) ∧ INV σ2 := by
  rcases hr with rfl | ⟨n, hn, rfl⟩
  · have J : ∀ α, INV2 (va_up σ 2 τ) (va_up (σ 6) 3 α) := fun α => I
    obtain ⟨A, e1, -⟩ := find_g (J (σ 6 3)) (k := 3) (by omega)
    obtain ⟨α, e2⟩ := hm (va_up (va_up σ 2 τ) 0 A) rfl rfl
    obtain ⟨A', e1', σ2, e3, I2⟩ := find_g (J α) (k := 3) (by omega)
    have eA : va_up (va_up σ 2 τ) 0 A = va_up (va_up σ 2 τ) 0 A' := by
      rw [e1] at e1'
      exact (Prod.mk.inj (Option.some.inj e1')).2
    refine ⟨(Int32.ofNat 4293967292), va_up (va_up σ 2 τ) 0 A, σ2, ?_, ?_, I2⟩
    · rw [hx, fin3, if_pos rfl, e1, bi_s]
    · rw [e2, mfin, e_X5_orNone, if_neg m1ge, eA]
      have e4 : F_X5_finding [.inr (.inr (.inl (6, 0))), .inl (Int32.ofNat 4293967292)] (ma (va_up (va_up σ 2 τ) 0 A') α) = some (some (.inl (Int32.ofNat 4293967292)), σ2) := e3
      rw [e4, bi_s, bi_s]
  · obtain ⟨α, e2⟩ := hm (va_up σ 2 τ) rfl rfl
    refine ⟨(nI n), va_up σ 2 τ, ma (va_up σ 2 τ) α, ?_, ?_, I⟩
    · rw [hx, fin3, if_neg (nm hn)]
    · rw [e2, mfin, e_X5_orNone, if_pos (nge hn), bi_s]
theorem ma_ma (σ : ts_S) (α β : Nat → Int32) : ma (ma σ α) β = ma σ β := by
  show va_up (va_up σ 6 _) 6 (va_up (va_up σ 6 (va_up (σ 6) 3 α) 6) 3 β) = _
  rw [up_uu, up_at, up_uu]; rfl
theorem mr_ma (σ : ts_S) (α ρ : Nat → Int32) : mr (ma σ α) ρ = ma (mr σ ρ) α := by
  show va_up (va_up σ 6 _) 6 (va_up (va_up σ 6 (va_up (σ 6) 3 α) 6) 1 ρ) = va_up (va_up σ 6 _) 6 (va_up (va_up σ 6 (va_up (σ 6) 1 ρ) 6) 3 α)
  rw [up_uu, up_uu, up_at, up_at]
  congr 1
  funext c
  unfold va_up
  by_cases h1 : c = 1
  · subst h1; rfl
  · by_cases h3 : c = 3
    · subst h3; rfl
    · rw [if_neg h1, if_neg h3, if_neg h3, if_neg h1]
theorem mr_ma_id (σ : ts_S) (α ρ : Nat → Int32) (h : σ 6 1 = ρ) : mr (ma σ α) ρ = ma σ α := by
  rw [mr_ma, ← h, mr_id]
