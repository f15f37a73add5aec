/-! bits; mend; odds -/
def bc (n : Nat) : Nat := n % 2 + n / 2 % 2 + n / 4 % 2 + n / 8 % 2 + n / 16 % 2 + n / 32 % 2 + n / 64 % 2 + n / 128 % 2 + n / 256 % 2 + n / 512 % 2 + n / 1024 % 2 + n / 2048 % 2
def bcI (a1 : Int32) : Int32 :=
  let y1 := a1 - (((Int32.toUInt32 a1 >>> (Int32.toUInt32 (nI 1) &&& Int32.toUInt32 31)).toInt32) &&& (nI 1431655765))
  let y2 := (y1 &&& (nI 858993459)) + (((Int32.toUInt32 y1 >>> (Int32.toUInt32 (nI 2) &&& Int32.toUInt32 31)).toInt32) &&& (nI 858993459))
  let y3 := (y2 + ((Int32.toUInt32 y2 >>> (Int32.toUInt32 (nI 4) &&& Int32.toUInt32 31)).toInt32)) &&& (nI 252645135)
  let y4 := y3 + ((Int32.toUInt32 y3 >>> (Int32.toUInt32 (nI 8) &&& Int32.toUInt32 31)).toInt32)
  let y5 := y4 + ((Int32.toUInt32 y4 >>> (Int32.toUInt32 (nI 16) &&& Int32.toUInt32 31)).toInt32)
  y5 &&& (nI 63)
set_option maxRecDepth 100000 in
theorem bcI_all : ∀ a, a < 64 → ∀ b, b < 64 → bcI (nI (64 * a + b)) = nI (bc (64 * a + b)) := by decide +kernel
set_option maxRecDepth 100000 in
theorem bc_step_all : ∀ a, a < 64 → ∀ b, b < 64 → (64 * a + b = 0 ∨ bc (64 * a + b) = bc ((64 * a + b) &&& (64 * a + b - 1)) + 1) := by decide +kernel
set_option maxRecDepth 100000 in
theorem bc_le_all : ∀ k, k < 9 → ∀ s, s < 2 ^ k → bc s ≤ k := by decide +kernel
theorem bc_le12 (n : Nat) : bc n ≤ 12 := by unfold bc; omega
theorem c_bc {n : Nat} (h : n < 4096) (σ : ts_S) : F_J6_bitCount_0f7a4 [.inl (nI n)] σ = some (some (.inl (nI (bc n))), σ) := by
  have := bcI_all (n / 64) (by omega) (n % 64) (by omega)
  rw [show 64 * (n / 64) + n % 64 = n by omega] at this
  rw [← this, e_J6_bitCount_0f7a4]; rfl
theorem bc_step {n : Nat} (h : n < 4096) (h0 : ¬ n = 0) : bc n = bc (n &&& (n - 1)) + 1 := by
  have := bc_step_all (n / 64) (by omega) (n % 64) (by omega)
  rw [show 64 * (n / 64) + n % 64 = n by omega] at this
  rcases this with e | e
  · exact absurd e h0
  · exact e
theorem bc_0 {n : Nat} (h : n < 4096) (e : bc n = 0) : n = 0 := by
  by_cases q : n = 0
  · exact q
  · have := bc_step h q
    omega
theorem nI_and {a b : Nat} (ha : a < 2 ^ 31) (hb : b < 2 ^ 31) : nI a &&& nI b = nI (a &&& b) := by
  have : a &&& b ≤ a := Nat.and_le_left
  apply Int32.toBitVec_inj.mp
  apply BitVec.eq_of_toNat_eq
  show ((nI a).toBitVec &&& (nI b).toBitVec).toNat = _
  rw [BitVec.toNat_and, pk_tn (by omega), pk_tn (by omega), pk_tn (by omega)]
theorem m_bits_l (v : Int32) (σ : ts_S) : ∀ k n c, n < 4096 → bc n = k → H_X5_bits_4 v (nI c) (nI n) σ = some (some (.inl (nI (c + k))), σ)
  | 0, n, c, h, e => by
    have := bc_0 h e
    subst this
    rw [h_X5_bits_4, if_pos rfl, Nat.add_zero]
  | k + 1, n, c, h, e => by
    have h0 : ¬ n = 0 := by
      intro z
      subst z
      have : bc 0 = 0 := by decide
      omega
    have s := bc_step h h0
    have le : n &&& (n - 1) ≤ n := Nat.and_le_left
    obtain ⟨m, hm⟩ : ∃ m, n = m + 1 := ⟨n - 1, by omega⟩
    have e1 : nI n - nI 1 = nI (n - 1) := by rw [hm, nI_m1']; rfl
    rw [h_X5_bits_4, if_neg (ki_eq (by omega) (by omega) h0), e1, nI_and (by omega) (by omega), ni_s, nI_add, m_bits_l v σ k (n &&& (n - 1)) (c + 1) (by omega) (by omega), show c + 1 + k = c + (k + 1) by omega]
theorem m_bits {n : Nat} (h : n < 4096) (σ : ts_S) : F_X5_bits [.inl (nI n)] σ = some (some (.inl (nI (bc n))), σ) := by
  rw [e_X5_bits, m_bits_l _ σ (bc n) n 0 h rfl, Nat.zero_add]
/-! sills mended -/
def S_md (ρ : Nat → Int32) (s : Int32) : Nat → (Nat → Int32)
  | 0 => ρ
  | i + 1 => if S_bit s (nI i) = nI 0 then S_md ρ s i else upd (S_md ρ s i) (sx i 2) (nI 1)
theorem md_all {ρ : Nat → Int32} (W : WR ρ) (s : Int32) : ∀ i, i ≤ nS ρ → WR (S_md ρ s i) ∧ nS (S_md ρ s i) = nS ρ ∧ nP (S_md ρ s i) = nP ρ ∧ ∀ a, 111 ≤ a → S_md ρ s i a = ρ a
  | 0, _ => ⟨W, rfl, rfl, fun _ _ => rfl⟩
  | i + 1, h => by
    have := W.2.1.2
    obtain ⟨a1, a2, a3, a4⟩ := md_all W s i (by omega)
    rw [S_md]
    split
    · exact ⟨a1, a2, a3, a4⟩
    · refine ⟨WR_sf a1 (by rw [a2]; omega) (f := 2) (by omega) (fun h => by omega) (fun h => by omega) (fun _ => ⟨1, by omega, rfl⟩), ?_, ?_, fun a ha => ?_⟩
      · rw [nS_upd (by unfold sx; omega), a2]
      · rw [nP_upd (by unfold sx; omega), a3]
      · rw [upd_ne _ _ (by unfold sx; omega), a4 a ha]
abbrev P_md (ρ : Nat → Int32) (p n : Nat) (w : Int32) (s : Nat) : Prop := ¬ S_bit (S_days (S_md ρ (nI s) (nS ρ)) n (px p 0)) w = nI 1
theorem c_hwm_l {ρ : Nat → Int32} (W : WR ρ) {p n : Nat} (w : Int32) (hp : p < nP ρ) (hn : n < 2 ^ 31) (s : Nat) : ∀ t i (σ : ts_S), i + t = nS ρ → RQ (σ 2) (S_md ρ (nI s) i) → ∃ τ, H_X4_hasWhenMended_7 (nI p) w (nI n) (nI s) (nI i) σ = some (some (.inl (if P_md ρ p n w s then nI 0 else nI 1)), va_up σ 2 τ)
  | 0, i, σ, e, R => by
    have := W.2.1.2
    have p6 := WR_p6 W hp
    obtain ⟨a1, a2, a3, a4⟩ := md_all W (nI s) i (by omega)
    obtain ⟨τ, e1, R1⟩ := c_passDays hq2 (n := n) σ hn R
    have e7 := (RQ_P R1 (p := p) (by rw [(S_days_np a1 n).2, a3]; exact hp)).1
    refine ⟨τ, ?_⟩
    rw [h_X4_hasWhenMended_7, R.2.1.2.1, a1.2.1.1, a2, if_pos (nI_le (by omega) (by omega)), e1, bv_s]
    have ei : i = nS ρ := by omega
    rcases S_bit_01 (S_days (S_md ρ (nI s) i) n (px p 0)) w with z | z
    · rw [c_hasWord_f hq2 _ (va_up σ 2 τ) p6 (by rw [up_at, e7]; exact z), bi_s, if_pos (Or.inl rfl), if_pos (by rw [P_md, ← ei, z]; exact n01)]
    · rw [c_hasWord_t hq2 _ (va_up σ 2 τ) p6 (by rw [up_at, e7]; exact z), bi_s, if_pos (Or.inr rfl), if_neg (by rw [P_md, ← ei, z]; exact fun h => h rfl)]
  | t + 1, i, σ, e, R => by
    have s8 := W.2.1.2
    have hb : ∀ x y : Int32, ((x >>> (y &&& nI 31)) &&& nI 1) = S_bit x y := fun _ _ => rfl
    obtain ⟨a1, a2, a3, a4⟩ := md_all W (nI s) i (by omega)
    obtain ⟨b1, b2, b3, b4⟩ := md_all W (nI s) (i + 1) (by omega)
    rw [h_X4_hasWhenMended_7, R.2.1.2.1, a1.2.1.1, a2, if_neg (nI_ge (by omega) (by omega)), hb, nI_add]
    by_cases q : S_bit (nI s) (nI i) = nI 0
    · rw [if_pos q]
      exact c_hwm_l W w hp hn s t (i + 1) σ (by omega) (by rw [S_md, if_pos q]; exact R)
    · have R2 : RQ (qu (σ 2) 4 i (nI 1)) (S_md ρ (nI s) (i + 1)) := by
        rw [S_md, if_neg q] at b1 ⊢
        exact RQ_sx R (i := i) (f := 2) (by rw [a2]; omega) (by omega) b1
      obtain ⟨τ, e2⟩ := c_hwm_l W w hp hn s t (i + 1) (va_up σ 2 (qu (σ 2) 4 i (nI 1))) (by omega) (by rw [up_at]; exact R2)
      refine ⟨τ, ?_⟩
      rw [up_uu] at e2
      rw [if_neg q, ck_n _ (by omega) (by omega), nw_s, nI_clamp (by omega), qu_up, e2]
theorem c_hwm {ρ : Nat → Int32} {p n : Nat} (w : Int32) (hp : p < nP ρ) (hn : n < 2 ^ 31) (s : Nat) (σ : ts_S) (R : RQ (σ 1) ρ) : ∃ τ, F_X4_hasWhenMended [.inr (.inr (.inl (0, 0))), .inl (nI p), .inl w, .inl (nI n), .inl (nI s)] σ = some (some (.inl (if P_md ρ p n w s then nI 0 else nI 1)), va_up σ 2 τ) := by
  obtain ⟨τ, e1, R1⟩ := c_begin σ R
  obtain ⟨τ2, e2⟩ := c_hwm_l R.1 w hp hn s (nS ρ) 0 (va_up σ 2 τ) (by omega) (by rw [up_at]; exact R1)
  refine ⟨τ2, ?_⟩
  rw [up_uu] at e2
  rw [e_X4_hasWhenMended, e1, bv_s]
  exact e2
theorem m_sa_l {ρ α : Nat → Int32} (W : WR ρ) {p n : Nat} (w : Int32) (hp : p < nP ρ) (hn : n < 2 ^ 31) (s : Nat) : ∀ t i (σ : ts_S), i + t = nS ρ → σ 6 1 = S_md ρ (nI s) i → σ 6 3 = cpR ρ α → H_X5_staysAway_14 (nI s) (nI p) w (nI n) (nI i) σ = some (some (.inl (if P_md ρ p n w s then nI 1 else nI 0)), mr σ ρ)
  | 0, i, σ, e, h1, h3 => by
    have := W.2.1.2
    have p6 := WR_p6 W hp
    obtain ⟨a1, a2, a3, a4⟩ := md_all W (nI s) i (by omega)
    have ei : i = nS ρ := by omega
    rw [h_X5_staysAway_14, ck_n _ (by omega) (by omega), h1, a1.2.1.1, a2, if_pos (nI_le (by omega) (by omega)), m_daysGo σ hn (by rw [h1]; exact a1), bv_s, m_hasWord _ _ p6, bi_s, mr_rd, h1]
    have ld : F_X5_copyRow [.inr (.inr (.inl (6, 3))), .inr (.inr (.inl (6, 1)))] (mr σ (S_days (S_md ρ (nI s) i) n)) = some (none, mr (mr σ (S_days (S_md ρ (nI s) i) n)) ρ) := m_load _ ρ α h3 (fun a ha => by rw [mr_rd, S_days_hi a1 ha, a4 a ha])
    rw [ld, bv_s, bv_s, mr_mr]
    by_cases z : S_bit (S_days (S_md ρ (nI s) i) n (px p 0)) w = nI 1
    · rw [if_pos z, if_neg n10, if_neg (by rw [P_md, ← ei, z]; exact fun h => h rfl)]
    · rw [if_neg z, if_pos rfl, if_pos (by rw [P_md, ← ei]; exact z)]
  | t + 1, i, σ, e, h1, h3 => by
    have s8 := W.2.1.2
    have hb : ∀ x y : Int32, ((x >>> (y &&& nI 31)) &&& nI 1) = S_bit x y := fun _ _ => rfl
    obtain ⟨a1, a2, a3, a4⟩ := md_all W (nI s) i (by omega)
    have q2 : sx i 2 < 111 := by unfold sx; omega
    rw [h_X5_staysAway_14, ck_n _ (by omega) (by omega), h1, a1.2.1.1, a2, if_neg (nI_ge (by omega) (by omega)), hb, nI_add]
    rcases S_bit_01 (nI s) (nI i) with q | q
    · rw [if_neg (by rw [q]; exact n01)]
      exact m_sa_l W w hp hn s t (i + 1) σ (by omega) (by rw [S_md, if_pos q]; exact h1) h3
    · rw [if_pos q, m_sillAt, bi_s, ck_n _ q2 (by omega), nw_s, nI_clamp (by omega), mr_up, h1, m_sa_l W w hp hn s t (i + 1) _ (by omega) (by rw [mr_rd, S_md, if_neg (by rw [q]; exact n10)]) (by exact h3), mr_mr]
theorem m_sa {p n : Nat} (w : Int32) (hn : n < 2 ^ 31) (s : Nat) (σ : ts_S) (W : WR (σ 6 1)) (hp : p < nP (σ 6 1)) : F_X5_staysAway [.inr (.inr (.inl (6, 0))), .inl (nI s), .inl (nI p), .inl w, .inl (nI n)] σ = some (some (.inl (if P_md (σ 6 1) p n w s then nI 1 else nI 0)), ma σ (cpR (σ 6 1) (σ 6 3))) := by
  have e3 := m_sa_l (ρ := σ 6 1) (α := σ 6 3) W w hp hn s (nS (σ 6 1)) 0 (ma σ (cpR (σ 6 1) (σ 6 3))) (by omega) rfl rfl
  rw [mr_ma_id σ _ _ rfl] at e3
  rw [e_X5_staysAway, m_save, bv_s]
  exact e3
/-! the best set: fewest bits, then least -/
def isB (P : Nat → Prop) (lo N : Nat) (r : Int32) : Prop := (r = -1 ∧ ∀ s, lo ≤ s → s < N → ¬ P s) ∨ ∃ m, r = nI m ∧ lo ≤ m ∧ m < N ∧ P m ∧ ∀ s, lo ≤ s → s < N → P s → bc m < bc s ∨ (bc m = bc s ∧ m ≤ s)
theorem isB_u {P : Nat → Prop} {lo N : Nat} {r r' : Int32} (h : isB P lo N r) (h' : isB P lo N r') : r = r' := by
  rcases h with ⟨e, n⟩ | ⟨m, e, l, u, p, b⟩
  · rcases h' with ⟨e', n'⟩ | ⟨m', e', l', u', p', b'⟩
    · rw [e, e']
    · exact absurd p' (n m' l' u')
  · rcases h' with ⟨e', n'⟩ | ⟨m', e', l', u', p', b'⟩
    · exact absurd p (n' m l u)
    · have h1 := b m' l' u' p'
      have h2 := b' m l u p
      rw [e, e', show m = m' by omega]
theorem S_le_sp (P : Nat → Prop) [DecidablePred P] : ∀ t j, (S_le P t j = -1 ∧ ∀ s, j ≤ s → s < j + t → ¬ P s) ∨ ∃ m, S_le P t j = nI m ∧ j ≤ m ∧ m < j + t ∧ P m ∧ ∀ s, j ≤ s → s < m → ¬ P s
  | 0, j => Or.inl ⟨rfl, fun s h1 h2 => by omega⟩
  | t + 1, j => by
    rw [S_le]
    by_cases q : P j
    · rw [if_pos q]
      exact Or.inr ⟨j, rfl, by omega, by omega, q, fun s h1 h2 => by omega⟩
    · rw [if_neg q]
      rcases S_le_sp P t (j + 1) with ⟨e, n⟩ | ⟨m, e, l, u, p, b⟩
      · refine Or.inl ⟨e, fun s h1 h2 => ?_⟩
        by_cases z : s = j
        · subst z; exact q
        · exact n s (by omega) (by omega)
      · refine Or.inr ⟨m, e, by omega, by omega, p, fun s h1 h2 => ?_⟩
        by_cases z : s = j
        · subst z; exact q
        · exact b s (by omega) h2
theorem c_mend_i {ρ : Nat → Int32} {p n N f : Nat} (w : Int32) (hp : p < nP ρ) (hn : n < 2 ^ 31) (hN : N ≤ 256) (hf : f < 2 ^ 31) : ∀ t j (σ : ts_S), j + t = N → RQ (σ 1) ρ → ∃ τ, H_X4_mend_65 (nI p) w (nI n) (nI N) (nI f) (nI j) σ = if S_le (fun s => bc s = f ∧ P_md ρ p n w s) t j = -1 then H_X4_mend_50 (nI p) w (nI n) (nI N) (nI (f + 1)) (va_up σ 2 τ) else some (some (.inl (S_le (fun s => bc s = f ∧ P_md ρ p n w s) t j)), va_up σ 2 τ)
  | 0, j, σ, e, R => ⟨σ 2, by rw [h_X4_mend_65, if_pos (nI_le (by omega) (by omega)), S_le, if_pos rfl, up_id, nI_add]⟩
  | t + 1, j, σ, e, R => by
    rw [h_X4_mend_65, if_neg (nI_ge (by omega) (by omega)), c_bc (by omega), bi_s, S_le, nI_add]
    have b12 := bc_le12 j
    by_cases q : bc j = f
    · obtain ⟨τ, e1⟩ := c_hwm w hp hn j σ R
      rw [if_pos (by rw [q]), e1, bi_s]
      by_cases z : P_md ρ p n w j
      · refine ⟨τ, ?_⟩
        rw [if_pos z, if_pos rfl, if_pos (show bc j = f ∧ P_md ρ p n w j from ⟨q, z⟩), if_neg (nm (by omega))]
      · obtain ⟨τ2, e2⟩ := c_mend_i w hp hn hN hf t (j + 1) (va_up σ 2 τ) (by omega) R
        refine ⟨τ2, ?_⟩
        rw [up_uu] at e2
        rw [if_neg z, if_neg n10, if_neg (show ¬ (bc j = f ∧ P_md ρ p n w j) from fun y => z y.2), e2]
    · obtain ⟨τ2, e2⟩ := c_mend_i w hp hn hN hf t (j + 1) σ (by omega) R
      refine ⟨τ2, ?_⟩
      rw [if_neg (ki_eq (by omega) hf q), if_neg (show ¬ (bc j = f ∧ P_md ρ p n w j) from fun y => q y.1), e2]
theorem c_mend_o {ρ : Nat → Int32} {p n : Nat} (w : Int32) (hp : p < nP ρ) (hn : n < 2 ^ 31) (s8 : nS ρ ≤ 8) : ∀ t f (σ : ts_S), f + t = nS ρ + 1 → RQ (σ 1) ρ → (∀ s, s < 2 ^ nS ρ → bc s < f → ¬ P_md ρ p n w s) → ∃ r τ, H_X4_mend_50 (nI p) w (nI n) (nI (2 ^ nS ρ)) (nI f) σ = fin3 r (va_up σ 2 τ) ∧ isB (P_md ρ p n w) 0 (2 ^ nS ρ) r
  | 0, f, σ, e, R, h => by
    refine ⟨-1, σ 2, ?_, Or.inl ⟨rfl, fun s _ hs => h s hs ?_⟩⟩
    · rw [h_X4_mend_50, R.2.1.2.1, R.1.2.1.1, if_pos (nI_lt (by omega) (by omega)), fin3, if_pos rfl, up_id]
    · have := bc_le_all (nS ρ) (by omega) s hs
      omega
  | t + 1, f, σ, e, R, h => by
    have hN : 2 ^ nS ρ ≤ 256 := by
      have : 2 ^ nS ρ ≤ 2 ^ 8 := Nat.pow_le_pow_right (by omega) s8
      omega
    obtain ⟨τ, e1⟩ := c_mend_i w hp hn hN (show f < 2 ^ 31 by omega) (2 ^ nS ρ) 0 σ (by omega) R
    have e0 : H_X4_mend_50 (nI p) w (nI n) (nI (2 ^ nS ρ)) (nI f) σ = H_X4_mend_65 (nI p) w (nI n) (nI (2 ^ nS ρ)) (nI f) (nI 0) σ := by
      rw [h_X4_mend_50, R.2.1.2.1, R.1.2.1.1, if_neg (nI_nlt (by omega) (by omega))]
    rw [e0, e1]
    rcases S_le_sp (fun s => bc s = f ∧ P_md ρ p n w s) (2 ^ nS ρ) 0 with ⟨er, nn⟩ | ⟨m, er, l, u, pm, b⟩
    · obtain ⟨r, τ2, e2, B⟩ := c_mend_o w hp hn s8 t (f + 1) (va_up σ 2 τ) (by omega) R (fun s hs hb => by
        by_cases q : bc s = f
        · exact fun z => nn s (by omega) (by omega) ⟨q, z⟩
        · exact h s hs (by omega))
      refine ⟨r, τ2, ?_, B⟩
      rw [up_uu] at e2
      rw [er, if_pos rfl, e2]
    · refine ⟨nI m, τ, ?_, Or.inr ⟨m, rfl, l, by omega, pm.2, fun s _ hs ps => ?_⟩⟩
      · rw [er, if_neg (nm (by omega)), fin3, if_neg (nm (by omega))]
      · have h1 : ¬ bc s < f := fun z => h s hs z ps
        have h2 : bc m = f := pm.1
        by_cases q : bc s = f
        · refine Or.inr ⟨by omega, ?_⟩
          by_cases z : s < m
          · exact absurd ⟨q, ps⟩ (b s (by omega) z)
          · omega
        · exact Or.inl (by omega)
theorem m_mend_l {ρ : Nat → Int32} (W : WR ρ) {p n N : Nat} (w : Int32) (hp : p < nP ρ) (hn : n < 2 ^ 31) (hN : N ≤ 256) : ∀ t (best : Int32) (σ : ts_S), t ≤ N → σ 6 1 = ρ → isB (P_md ρ p n w) t N best → ∃ r α, H_X5_mend_47 (nI p) w (nI n) best (nI t + (-1)) σ = mfin r (ma σ α) ∧ isB (P_md ρ p n w) 0 N r
  | 0, best, σ, e, h, B => by
    refine ⟨best, σ 6 3, ?_, B⟩
    rw [h_X5_mend_47, if_pos (by decide)]
    rw [show ma σ (σ 6 3) = σ by unfold ma; rw [up_id, up_id]]
    rfl
  | t + 1, best, σ, e, h, B => by
    have e1 := m_sa (p := p) (n := n) w hn t σ (by rw [h]; exact W) (by rw [h]; exact hp)
    rw [h] at e1
    rw [h_X5_mend_47, pk_m1, if_neg (nn (by omega))]
    have next : ∀ (b' : Int32) (σ' : ts_S), σ' = σ ∨ σ' = ma σ (cpR ρ (σ 6 3)) → isB (P_md ρ p n w) t N b' → ∃ r α, H_X5_mend_47 (nI p) w (nI n) b' (nI t + (-1)) σ' = mfin r (ma σ α) ∧ isB (P_md ρ p n w) 0 N r := by
      intro b' σ' hs B'
      obtain ⟨r, α, i1, B1⟩ := m_mend_l W w hp hn hN t b' σ' (by omega) (by rcases hs with rfl | rfl <;> exact h) B'
      refine ⟨r, α, ?_, B1⟩
      rcases hs with rfl | rfl
      · exact i1
      · rw [ma_ma] at i1; exact i1
    rcases B with ⟨eb, nb⟩ | ⟨m, eb, lm, um, pm, bm⟩
    · rw [eb, if_pos m1lt, e1, bi_s]
      by_cases z : P_md ρ p n w t
      · rw [if_pos z, if_neg n10]
        refine next _ _ (Or.inr rfl) (Or.inr ⟨t, rfl, by omega, by omega, z, fun s h1 h2 ps => ?_⟩)
        by_cases q : s = t
        · subst q; exact Or.inr ⟨rfl, Nat.le_refl _⟩
        · exact absurd ps (nb s (by omega) h2)
      · rw [if_neg z, if_pos rfl]
        refine next _ _ (Or.inr rfl) (Or.inl ⟨rfl, fun s h1 h2 => ?_⟩)
        by_cases q : s = t
        · subst q; exact z
        · exact nb s (by omega) h2
    · have b1 := bc_le12 t
      have b2 := bc_le12 m
      rw [eb, if_neg (nn (by omega)), m_bits (by omega), bi_s, m_bits (by omega), bi_s]
      by_cases c : bc m < bc t
      · rw [if_pos (nI_lt c (by omega))]
        refine next _ _ (Or.inl rfl) (Or.inr ⟨m, rfl, by omega, um, pm, fun s h1 h2 ps => ?_⟩)
        by_cases q : s = t
        · subst q; exact Or.inl c
        · exact bm s (by omega) h2 ps
      · rw [if_neg (nI_nlt (by omega) (by omega)), e1, bi_s]
        by_cases z : P_md ρ p n w t
        · rw [if_pos z, if_neg n10]
          refine next _ _ (Or.inr rfl) (Or.inr ⟨t, rfl, by omega, by omega, z, fun s h1 h2 ps => ?_⟩)
          by_cases q : s = t
          · subst q; exact Or.inr ⟨rfl, Nat.le_refl _⟩
          · have := bm s (by omega) h2 ps
            omega
        · rw [if_neg z, if_pos rfl]
          refine next _ _ (Or.inr rfl) (Or.inr ⟨m, rfl, by omega, um, pm, fun s h1 h2 ps => ?_⟩)
          by_cases q : s = t
          · subst q; exact absurd ps z
          · exact bm s (by omega) h2 ps
theorem isB_r {P : Nat → Prop} {N : Nat} {r : Int32} (hN : N ≤ 256) (h : isB P 0 N r) : r = -1 ∨ ∃ n, n < 2 ^ 31 ∧ r = nI n := by
  rcases h with ⟨e, _⟩ | ⟨m, e, _, u, _⟩
  · exact Or.inl e
  · exact Or.inr ⟨m, by omega, e⟩
theorem sh_N {k : Nat} (hk : k ≤ 8) : nI 1 <<< (nI k &&& nI 31) = nI (2 ^ k) := sh_bit (by omega)
theorem sim_mend (a1 a2 a3 : Int32) : SIM F_X4_mend F_X5_mend [.inl a1, .inl a2, .inl a3] := by
  intro σ I
  have R := INV_R I
  have W := R.1
  have hP := W.2.2.1
  have hS := W.2.1
  by_cases h1 : nI 0 ≤ a1 ∧ a1 < nI (nP (σ 6 1))
  · by_cases h2 : nI 0 ≤ a2 ∧ a2 < nI 12
    · by_cases h3 : nI 0 ≤ a3 ∧ a3 < nI 21
      · obtain ⟨p, hp, rfl⟩ := in_of (by omega) h1
        obtain ⟨n, hn, rfl⟩ := in_of (by omega) h3
        have hN : 2 ^ nS (σ 6 1) ≤ 256 := by
          have : 2 ^ nS (σ 6 1) ≤ 2 ^ 8 := Nat.pow_le_pow_right (by omega) hS.2
          omega
        have hN1 : 0 < 2 ^ nS (σ 6 1) := Nat.two_pow_pos _
        obtain ⟨r, τ, e1, B⟩ := c_mend_o a2 hp (show n < 2 ^ 31 by omega) hS.2 (nS (σ 6 1) + 1) 0 σ (by omega) R (fun s _ hb => by omega)
        refine sim_fin I (isB_r hN B) (τ := τ) ?_ (fun σ1 h6 h5 => ?_)
        · rw [e_X4_mend, c_isPerson_t hq1 σ R h1, bi_s, if_neg n10, below_t σ h2, bi_s, if_neg n10, cw_t (n := 20) σ (by omega) h3, bi_s, if_neg n10, ni_s, R.2.1.2.1, hS.1, sh_N hS.2]
          exact e1
        · have W1 : WR (σ1 6 1) := by rw [h6]; exact W
          obtain ⟨r', α, e3, B'⟩ := m_mend_l (ρ := σ 6 1) W a2 hp (show n < 2 ^ 31 by omega) hN (2 ^ nS (σ 6 1)) (-1) σ1 (Nat.le_refl _) (by rw [h6]) (Or.inl ⟨rfl, fun s h1 h2 => by omega⟩)
          refine ⟨α, ?_⟩
          rw [isB_u B B', ← e3, e_X5_mend, mp_t σ1 W1 (by rw [h6]; exact h1), bi_s, if_neg n10, wordn_t _ h2, bi_s, if_neg n10, mw_t (n := 20) _ (by omega) h3, bi_s, if_neg n10, ck_n _ (by omega) (by omega), ni_s, h6, hS.1, sh_N hS.2]
          obtain ⟨m, hm⟩ : ∃ m, 2 ^ nS (σ 6 1) = m + 1 := ⟨2 ^ nS (σ 6 1) - 1, by omega⟩
          rw [hm, nI_m1', pk_m1]
      · obtain ⟨A, e1, σ2, e2, I2⟩ := find0 I
        apply sim_mk (h3 := I2)
        · rw [e_X4_mend, c_isPerson_t hq1 σ R h1, bi_s, if_neg n10, below_t σ h2, bi_s, if_neg n10, cw_f (n := 20) σ (by omega) h3, bi_s, if_pos rfl, e1, bi_s]
        · rw [e_X5_mend, mp_t (va_up σ 0 A) W h1, bi_s, if_neg n10, wordn_t _ h2, bi_s, if_neg n10, mw_f (n := 20) _ (by omega) h3, bi_s, if_pos rfl, e2, bi_s]
    · obtain ⟨A, e1, σ2, e2, I2⟩ := find0 I
      apply sim_mk (h3 := I2)
      · rw [e_X4_mend, c_isPerson_t hq1 σ R h1, bi_s, if_neg n10, below_f σ h2, bi_s, if_pos rfl, e1, bi_s]
      · rw [e_X5_mend, mp_t (va_up σ 0 A) W h1, bi_s, if_neg n10, wordn_f _ h2, bi_s, if_pos rfl, e2, bi_s]
  · obtain ⟨A, e1, σ2, e2, I2⟩ := find0 I
    apply sim_mk (h3 := I2)
    · rw [e_X4_mend, c_isPerson_f hq1 σ R h1, bi_s, if_pos rfl, e1, bi_s]
    · rw [e_X5_mend, mp_f (va_up σ 0 A) W h1, bi_s, if_pos rfl, e2, bi_s]
