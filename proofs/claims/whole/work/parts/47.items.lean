/-! the parser's pieces -/
theorem z_same {z : Nat → Int32} {j : Nat} {x : Int32} (h : z j = x) : upd z j x = z := by rw [← h]; exact upd_same z j
theorem m_must_t {σ : ts_S} {f h z : Nat → Int32} {k b : Nat} (hB : TB h k) (hm : ∀ i, i < k → σ 6 5 i = h i) (hb : b ≤ k) (Z : ZT z h k b) (e11 : z 11 = nI 0) : F_X5_must [.inr (.inr (.inl (6, 0))), .inl (nI 1)] (mz σ z f) = some (none, mz σ (zt z h k (T_n h k b)) f) := by
  rw [e_X5_must, mz_r, e11, if_pos rfl, if_neg n10, nw_s, mz_u, z_same e11, mz_r, e11, if_pos rfl, m_tok hB hm hb Z, bv_s]
theorem m_must_f {σ : ts_S} {f z : Nat → Int32} (e11 : z 11 = nI 0) : F_X5_must [.inr (.inr (.inl (6, 0))), .inl (nI 0)] (mz σ z f) = some (none, mz σ (upd z 11 (nI 1)) f) := by
  rw [e_X5_must, mz_r, e11, if_pos rfl, if_pos rfl, nw_s, mz_u, mz_r, upd_at, if_neg n10]
theorem m_must_w {σ : ts_S} {f z : Nat → Int32} (e11 : z 11 = nI 1) (x : Int32) : F_X5_must [.inr (.inr (.inl (6, 0))), .inl x] (mz σ z f) = some (none, mz σ z f) := by
  rw [e_X5_must, mz_r, e11, if_neg n10, nw_s, mz_u, z_same e11, mz_r, e11, if_neg n10]
theorem sort2 {h z : Nat → Int32} {k b : Nat} (Z : ZT z h k b) : z 9 = nI 2 ↔ T_t h k b = 2 := by
  have tc := T_t_c h k b
  rw [Z.2.1]
  by_cases q : T_t h k b = 4
  · rw [if_pos q]
    exact ⟨fun y => absurd y (by decide), fun y => by omega⟩
  · rw [if_neg q]
    exact ⟨fun y => (nI_eq (by omega) (by omega)).mp y, fun y => by rw [y]⟩
theorem m_num_t {σ : ts_S} {f h z : Nat → Int32} {k b : Nat} {hi : Int32} (hB : TB h k) (hm : ∀ i, i < k → σ 6 5 i = h i) (hb : b ≤ k) (Z : ZT z h k b) (e11 : z 11 = nI 0) (H : T_t h k b = 2 ∧ nI (T_v h k b) ≤ hi) : F_X5_number [.inr (.inr (.inl (6, 0))), .inl (nI 0), .inl hi] (mz σ z f) = some (some (.inl (nI (T_v h k b))), mz σ (zt z h k (T_n h k b)) f) := by
  have v := T_v_b h k b
  have e10 := Z.2.2.2.2
  rw [if_pos H.1] at e10
  rw [e_X5_number, mz_r, e10, ni_s, mz_r, if_pos ((sort2 Z).mpr H.1), mwithin_t _ ⟨nge (by omega), H.2⟩, bi_s, if_neg n10, m_must_t hB hm hb Z e11, bv_s]
theorem m_num_f {σ : ts_S} {f h z : Nat → Int32} {k b : Nat} {hi : Int32} (Z : ZT z h k b) (e11 : z 11 = nI 0) (H : ¬ (T_t h k b = 2 ∧ nI (T_v h k b) ≤ hi)) : F_X5_number [.inr (.inr (.inl (6, 0))), .inl (nI 0), .inl hi] (mz σ z f) = some (some (.inl (z 10)), mz σ (upd z 11 (nI 1)) f) := by
  rw [e_X5_number, mz_r, ni_s, mz_r]
  by_cases q : T_t h k b = 2
  · have e10 := Z.2.2.2.2
    rw [if_pos q] at e10
    rw [if_pos ((sort2 Z).mpr q), mwithin_f _ (fun y => H ⟨q, by rw [← e10]; exact y.2⟩), bi_s, if_pos rfl, m_must_f e11, bv_s]
  · rw [if_neg (fun y => q ((sort2 Z).mp y)), m_must_f e11, bv_s]
theorem m_num_w {σ : ts_S} {f z : Nat → Int32} (e11 : z 11 = nI 1) (hi : Int32) : F_X5_number [.inr (.inr (.inl (6, 0))), .inl (nI 0), .inl hi] (mz σ z f) = some (some (.inl (z 10)), mz σ z f) := by
  rw [e_X5_number, mz_r, ni_s, mz_r]
  by_cases q : z 9 = nI 2
  · rw [if_pos q]
    by_cases p : nI 0 ≤ z 10 ∧ z 10 ≤ hi
    · rw [mwithin_t _ p, bi_s, if_neg n10, m_must_w e11, bv_s]
    · rw [mwithin_f _ p, bi_s, if_pos rfl, m_must_w e11, bv_s]
  · rw [if_neg q, m_must_w e11, bv_s]
theorem m_tw_t {σ : ts_S} {f h z : Nat → Int32} {k b a : Nat} (ha : a < 13) (hB : TB h k) (hm : ∀ i, i < k → σ 6 5 i = h i) (hb : b ≤ k) (Z : ZT z h k b) (e11 : z 11 = nI 0) (H : WD h k b a) : F_X5_takesWord [.inr (.inr (.inl (6, 0))), .inr (.inr (.inr a))] (mz σ z f) = some (some (.inl (nI 1)), mz σ (zt z h k (T_n h k b)) f) := by
  rw [e_X5_takesWord, mz_r, e11, if_pos rfl, m_isWord_t ha hB.1 hb hm Z H, bi_s, if_neg n10, if_neg n10, m_must_t hB hm hb Z e11, bv_s]
theorem m_tw_f {σ : ts_S} {f h z : Nat → Int32} {k b a : Nat} (ha : a < 13) (hB : TB h k) (hm : ∀ i, i < k → σ 6 5 i = h i) (hb : b ≤ k) (Z : ZT z h k b) (e11 : z 11 = nI 0) (H : ¬ WD h k b a) : F_X5_takesWord [.inr (.inr (.inl (6, 0))), .inr (.inr (.inr a))] (mz σ z f) = some (some (.inl (nI 0)), mz σ z f) := by
  rw [e_X5_takesWord, mz_r, e11, if_pos rfl, m_isWord_f ha hB.1 hb hm Z H, bi_s, if_pos rfl, if_pos rfl]
theorem m_tw_w {σ : ts_S} {f z : Nat → Int32} (a : Nat) (ha : a < 13) (e11 : z 11 = nI 1) : F_X5_takesWord [.inr (.inr (.inl (6, 0))), .inr (.inr (.inr a))] (mz σ z f) = some (some (.inl (nI 0)), mz σ z f) := by
  rw [e_X5_takesWord, mz_r, e11, if_neg n10, if_pos rfl]
theorem c_num_t {σ : ts_S} {τ : Nat → Nat → Int32} {y : Nat → Int32} {k b : Nat} {hi : Int32} (Y : YT y (σ 4 1) k b) (H : T_t (σ 4 1) k b = 2 ∧ nI (T_v (σ 4 1) k b) ≤ hi) : F_X3_isNumber [.inr (.inr (.inl (4, 0))), .inl hi] (cs σ y τ) = some (some (.inl (nI 1)), cs σ y τ) := by
  rw [e_X3_isNumber, cs_r, Y.2.1, H.1, if_pos rfl, cs_r, Y.2.2.2.2 H.1, if_neg (Int32.not_lt.mpr H.2)]
theorem c_num_f {σ : ts_S} {τ : Nat → Nat → Int32} {y : Nat → Int32} {k b : Nat} {hi : Int32} (Y : YT y (σ 4 1) k b) (H : ¬ (T_t (σ 4 1) k b = 2 ∧ nI (T_v (σ 4 1) k b) ≤ hi)) : F_X3_isNumber [.inr (.inr (.inl (4, 0))), .inl hi] (cs σ y τ) = some (some (.inl (nI 0)), cs σ y τ) := by
  have tc := T_t_c (σ 4 1) k b
  rw [e_X3_isNumber, cs_r, Y.2.1]
  by_cases q : T_t (σ 4 1) k b = 2
  · rw [q, if_pos rfl, cs_r, Y.2.2.2.2 q, if_pos (Int32.not_le.mp (fun p => H ⟨q, p⟩))]
  · rw [if_neg (ki_eq (by omega) (by omega) q)]
/-! the kinds' names -/
theorem nameOf {i : Nat} (hi : i < 7) (σ : ts_S) : F_X0_nameOf [.inl (nI i)] σ = some (some (.inr (.inr (.inr i))), σ) := by
  rw [e_X0_nameOf]
  rcases (show i = 0 ∨ i = 1 ∨ i = 2 ∨ i = 3 ∨ i = 4 ∨ i = 5 ∨ i = 6 by omega) with rfl | rfl | rfl | rfl | rfl | rfl | rfl <;> rfl
theorem c_kind_l {σ : ts_S} {τ : Nat → Nat → Int32} {y : Nat → Int32} {k b j : Nat} (hk : k ≤ 120) (hb : b ≤ k) (Y : YT y (σ 4 1) k b) (hj : j < 7) (H : WD (σ 4 1) k b j) : ∀ t i, i + t = j → H_X0_kindNamed_2 (nI i) (cs σ y τ) = some (some (.inl (nI j)), cs σ y τ)
  | 0, i, e => by
    have : i = j := by omega
    subst this
    rw [h_X0_kindNamed_2, if_neg (nI_ge (by omega) (by omega)), nameOf hj, bs_s, c_isWord_t (by omega) hk hb Y H, bi_s, if_neg n10]
  | t + 1, i, e => by
    rw [h_X0_kindNamed_2, if_neg (nI_ge (by omega) (by omega)), nameOf (by omega), bs_s, c_isWord_f (by omega) hk hb Y (fun q => by have := WD_inj (by omega) (by omega) H q; omega), bi_s, if_pos rfl, nI_add, c_kind_l hk hb Y hj H t (i + 1) (by omega)]
theorem c_kind_t {σ : ts_S} {τ : Nat → Nat → Int32} {y : Nat → Int32} {k b j : Nat} (hk : k ≤ 120) (hb : b ≤ k) (Y : YT y (σ 4 1) k b) (hj : j < 7) (H : WD (σ 4 1) k b j) : F_X0_kindNamed [.inr (.inr (.inl (4, 0)))] (cs σ y τ) = some (some (.inl (nI j)), cs σ y τ) := by
  rw [e_X0_kindNamed, c_kind_l hk hb Y hj H j 0 (by omega)]
theorem c_kind_m {σ : ts_S} {τ : Nat → Nat → Int32} {y : Nat → Int32} {k b : Nat} (hk : k ≤ 120) (hb : b ≤ k) (Y : YT y (σ 4 1) k b) (H : ∀ j, j < 7 → ¬ WD (σ 4 1) k b j) : ∀ t i, i + t = 7 → H_X0_kindNamed_2 (nI i) (cs σ y τ) = some (some (.inl (-1)), cs σ y τ)
  | 0, i, e => by rw [h_X0_kindNamed_2, if_pos (nI_le (by omega) (by omega))]
  | t + 1, i, e => by
    rw [h_X0_kindNamed_2, if_neg (nI_ge (by omega) (by omega)), nameOf (by omega), bs_s, c_isWord_f (by omega) hk hb Y (H i (by omega)), bi_s, if_pos rfl, nI_add, c_kind_m hk hb Y H t (i + 1) (by omega)]
theorem c_kind_f {σ : ts_S} {τ : Nat → Nat → Int32} {y : Nat → Int32} {k b : Nat} (hk : k ≤ 120) (hb : b ≤ k) (Y : YT y (σ 4 1) k b) (H : ∀ j, j < 7 → ¬ WD (σ 4 1) k b j) : F_X0_kindNamed [.inr (.inr (.inl (4, 0)))] (cs σ y τ) = some (some (.inl (-1)), cs σ y τ) := by
  rw [e_X0_kindNamed, c_kind_m hk hb Y H 7 0 (by omega)]
theorem m_kind_o {σ : ts_S} {z f h : Nat → Int32} {k b l : Nat} (v1 v2 : Int32) (hk : k ≤ 120) (hb : b ≤ k) (hm : ∀ i, i < k → σ 6 5 i = h i) (Z : ZT z h k b) (H : ∀ j, l ≤ j → j < 7 → ¬ WD h k b j) : ∀ t i, i + t = 7 → l ≤ i → H_X5_readItem_12 v1 v2 (nI i) (mz σ z f) = H_X5_readItem_12 v1 v2 (nI 7) (mz σ z f)
  | 0, i, e, hl => by rw [show i = 7 by omega]
  | t + 1, i, e, hl => by
    rw [h_X5_readItem_12, if_neg (nI_ge (by omega) (by omega)), ck_n _ (by omega) (by omega), nI_clamp (by omega), m_isWord_f (by omega) hk hb hm Z (H i hl (by omega)), bi_s, if_pos rfl, nI_add, m_kind_o v1 v2 hk hb hm Z H t (i + 1) (by omega) (by omega)]
theorem m_kind_l {σ : ts_S} {z f h : Nat → Int32} {k b j : Nat} (v1 : Int32) (hk : k ≤ 120) (hb : b ≤ k) (hm : ∀ i, i < k → σ 6 5 i = h i) (Z : ZT z h k b) (hj : j < 7) (H : WD h k b j) : ∀ t i v2, i + t = j → H_X5_readItem_12 v1 v2 (nI i) (mz σ z f) = H_X5_readItem_12 v1 (nI j) (nI 7) (mz σ z f)
  | 0, i, v2, e => by
    have : i = j := by omega
    subst this
    rw [h_X5_readItem_12, if_neg (nI_ge (by omega) (by omega)), ck_n _ (by omega) (by omega), nI_clamp (by omega), m_isWord_t (by omega) hk hb hm Z H, bi_s, if_neg n10, nI_add, m_kind_o (l := i + 1) v1 (nI i) hk hb hm Z (fun c h1 h2 q => by have := WD_inj (by omega) (by omega) H q; omega) (6 - i) (i + 1) (by omega) (by omega)]
  | t + 1, i, v2, e => by
    rw [h_X5_readItem_12, if_neg (nI_ge (by omega) (by omega)), ck_n _ (by omega) (by omega), nI_clamp (by omega), m_isWord_f (by omega) hk hb hm Z (fun q => by have := WD_inj (by omega) (by omega) H q; omega), bi_s, if_pos rfl, nI_add, m_kind_l v1 hk hb hm Z hj H t (i + 1) v2 (by omega)]
/-! what an item is told as -/
def IV (f : Nat → Int32) (a : Nat) (ρ ρ' : Nat → Int32) : Prop := ∀ σ : ts_S, (∀ j, j < 8 → σ 6 7 (a + j) = f (a + j)) → σ 6 1 = ρ → F_X5_isToldSo [.inr (.inr (.inl (6, 0))), .inl (nI a)] σ = some (none, mr σ ρ')
def KP (z z' : Nat → Int32) : Prop := ∀ i, i ≤ 6 → z' i = z i
def OUT (h : Nat → Int32) (k b n : Nat) (z f ρ : Nat → Int32) (x : Nat) (y' : Nat → Int32) (τ' : Nat → Nat → Int32) (z' f' : Nat → Int32) : Prop := KP z z' ∧ (∀ i, i < 8 * n → f' i = f i) ∧ ((x = 1 ∧ ∃ b' ρ', b ≤ b' ∧ b' ≤ k ∧ YT y' h k b' ∧ ZT z' h k b' ∧ z' 11 = nI 0 ∧ z' 14 = z 14 ∧ z' 15 = nI (nS ρ') ∧ z' 16 = nI (nP ρ') ∧ RQ τ' ρ' ∧ IV f' (8 * n) ρ ρ') ∨ (x = 0 ∧ ∃ b', b' ≤ k ∧ y' 3 = nI b' ∧ z' 7 = nI b' ∧ z' 11 = nI 1) ∨ (x = 1 ∧ ∃ b', b' ≤ k ∧ y' 2 = nI 2 ∧ y' 3 = nI b' ∧ z' 7 = nI b' ∧ z' 11 = nI 1))
/-! sills -/
noncomputable def RSm (a2 : Int32) (σ : ts_S) : Option ts_A := ts_bi (F_X5_takesWord [.inr (.inr (.inl (6, 0))), .inr (.inr (.inr 10))] σ) fun x7 σ6 => if x7 = nI 0 then (ts_ck (a2 + (nI 1)) 960 <| ts_nw (ts_up σ6 6 7 ((a2 + (nI 1)).toNatClampNeg) (nI 0)) fun σ8 => ts_nw (ts_up σ8 6 0 15 ((σ8 6 0 15) + (nI 1))) fun σ9 => some (none, σ9)) else ts_ck (a2 + (nI 1)) 960 <| ts_nw (ts_up σ6 6 7 ((a2 + (nI 1)).toNatClampNeg) (nI 1)) fun σ10 => ts_nw (ts_up σ10 6 0 15 ((σ10 6 0 15) + (nI 1))) fun σ11 => some (none, σ11)
noncomputable def RSx (v2 v3 : Int32) (σ : ts_S) : Option ts_A := ts_ck (v2 + (nI 2)) 960 <| ts_nw (ts_up σ 6 7 ((v2 + (nI 2)).toNatClampNeg) v3) fun σ1 => RSm v2 σ1
noncomputable def RSb (a1 a2 : Int32) (σ : ts_S) : Option ts_A := ts_ck a2 960 <| ts_nw (ts_up σ 6 7 (a2.toNatClampNeg) a1) fun σ2 => ts_ck (a2 + (nI 2)) 960 <| ts_nw (ts_up σ2 6 7 ((a2 + (nI 2)).toNatClampNeg) (nI 0)) fun σ3 => ts_bi (F_X5_takesWord [.inr (.inr (.inl (6, 0))), .inr (.inr (.inr 9))] σ3) fun x5 σ4 => if x5 = nI 0 then RSm a2 σ4 else ts_bi (F_X5_number [.inr (.inr (.inl (6, 0))), .inl (nI 0), .inl (nI 11)] σ4) fun x13 σ12 => ts_ck (a2 + (nI 3)) 960 <| ts_nw (ts_up σ12 6 7 ((a2 + (nI 3)).toNatClampNeg) x13) fun σ14 => H_X5_readSill_61 a1 a2 (nI 1) σ14
theorem rs_e (a1 a2 : Int32) (σ : ts_S) : F_X5_readSill [.inr (.inr (.inl (6, 0))), .inl a1, .inl a2] σ = if (nI 8) ≤ (σ 6 0 15) then ts_bv (F_X5_must [.inr (.inr (.inl (6, 0))), .inl (nI 0)] σ) (RSb a1 a2) else ts_bv (F_X5_must [.inr (.inr (.inl (6, 0))), .inl (nI 1)] σ) (RSb a1 a2) := by
  rw [e_X5_readSill]; rfl
theorem rs_h (v1 v2 v3 : Int32) (σ : ts_S) : H_X5_readSill_61 v1 v2 v3 σ = if (σ 6 0 11) = nI 0 then (if (σ 6 0 9) = (nI 2) then (if (nI 5) ≤ v3 then RSx v2 v3 σ else ts_bi (F_X5_number [.inr (.inr (.inl (6, 0))), .inl (nI 0), .inl (nI 11)] σ) fun x9 σ8 => ts_ck ((v2 + (nI 3)) + v3) 960 <| ts_nw (ts_up σ8 6 7 (((v2 + (nI 3)) + v3).toNatClampNeg) x9) fun σ10 => H_X5_readSill_61 v1 v2 (v3 + (nI 1)) σ10) else RSx v2 v3 σ) else RSx v2 v3 σ := by
  rw [h_X5_readSill_61]; rfl
theorem rm_0 {σ : ts_S} {z f : Nat → Int32} {a : Nat} (ha : a + 8 ≤ 960) (h : F_X5_takesWord [.inr (.inr (.inl (6, 0))), .inr (.inr (.inr 10))] (mz σ z f) = some (some (.inl (nI 0)), mz σ z f)) : RSm (nI a) (mz σ z f) = some (none, mz σ (upd z 15 (z 15 + nI 1)) (upd f (a + 1) (nI 0))) := by
  unfold RSm
  rw [h, bi_s, if_pos rfl, nI_add, ck_n _ (by omega) (by omega), nw_s, nI_clamp (by omega), mz_w, nw_s, mz_r, mz_u]
theorem rm_1 {σ : ts_S} {z z' f : Nat → Int32} {a : Nat} (ha : a + 8 ≤ 960) (h : F_X5_takesWord [.inr (.inr (.inl (6, 0))), .inr (.inr (.inr 10))] (mz σ z f) = some (some (.inl (nI 1)), mz σ z' f)) : RSm (nI a) (mz σ z f) = some (none, mz σ (upd z' 15 (z' 15 + nI 1)) (upd f (a + 1) (nI 1))) := by
  unfold RSm
  rw [h, bi_s, if_neg n10, nI_add, ck_n _ (by omega) (by omega), nw_s, nI_clamp (by omega), mz_w, nw_s, mz_r, mz_u]
theorem rx_e {σ : ts_S} {z f : Nat → Int32} {a : Nat} (ha : a + 8 ≤ 960) (v3 : Int32) : RSx (nI a) v3 (mz σ z f) = RSm (nI a) (mz σ z (upd f (a + 2) v3)) := by
  unfold RSx
  rw [nI_add, ck_n _ (by omega) (by omega), nw_s, nI_clamp (by omega), mz_w]
/-! rows with words laid -/
def LY (f : Nat → Int32) (a i : Nat) : Nat → (Nat → Int32) → (Nat → Int32)
  | 0, ρ => ρ
  | m + 1, ρ => S_lay (LY f a i m ρ) i (f (a + 3 + m))
theorem LY_c {f f' : Nat → Int32} {a i : Nat} : ∀ m (ρ : Nat → Int32), (∀ j, j < m → f' (a + 3 + j) = f (a + 3 + j)) → LY f' a i m ρ = LY f a i m ρ
  | 0, ρ, h => rfl
  | m + 1, ρ, h => by rw [LY, LY, LY_c m ρ (fun j hj => h j (by omega)), h m (by omega)]
theorem nS_lay (ρ : Nat → Int32) (i : Nat) (w : Int32) : nS (S_lay ρ i w) = nS ρ ∧ nP (S_lay ρ i w) = nP ρ := by
  unfold S_lay
  rw [nS_upd (by unfold sx; omega), nS_upd (by unfold sx; omega), nP_upd (by unfold sx; omega)]
  by_cases q : 3 = sx i (4 + nK ρ i)
  · unfold sx at q; omega
  · rw [nP_upd q]; exact ⟨rfl, rfl⟩
theorem LY_n (f : Nat → Int32) (a i : Nat) : ∀ m (ρ : Nat → Int32), nS (LY f a i m ρ) = nS ρ ∧ nP (LY f a i m ρ) = nP ρ
  | 0, ρ => ⟨rfl, rfl⟩
  | m + 1, ρ => by rw [LY, (nS_lay _ _ _).1, (nS_lay _ _ _).2]; exact LY_n f a i m ρ
theorem LY_3 (f : Nat → Int32) (a i : Nat) : ∀ m (ρ : Nat → Int32), ρ (sx i 3) = nI 0 → LY f a i m ρ (sx i 3) = nI m
  | 0, ρ, h => h
  | m + 1, ρ, h => by
    have ih := LY_3 f a i m ρ h
    rw [LY]
    unfold S_lay
    rw [upd_at, ih, nI_add]
theorem upd_c (ρ : Nat → Int32) {a b : Nat} (v w : Int32) (h : ¬ a = b) : upd (upd ρ a v) b w = upd (upd ρ b w) a v := by
  funext c
  unfold upd
  by_cases e : c = b
  · rw [if_pos e, if_neg (by omega), if_pos e]
  · rw [if_neg e, if_neg e]
theorem lay_c (ρ : Nat → Int32) (i : Nat) (w x : Int32) : S_lay (upd ρ (sx i 2) x) i w = upd (S_lay ρ i w) (sx i 2) x := by
  unfold S_lay
  rw [nK_upd (by unfold sx; omega), upd_ne _ _ (show ¬ sx i 3 = sx i 2 by unfold sx; omega), upd_c _ _ _ (show ¬ sx i 2 = sx i (4 + nK ρ i) by unfold sx; omega), upd_c _ _ _ (show ¬ sx i 2 = sx i 3 by unfold sx; omega)]
theorem LY_u (f : Nat → Int32) (a i : Nat) (x : Int32) : ∀ m (ρ : Nat → Int32), LY f a i m (upd ρ (sx i 2) x) = upd (LY f a i m ρ) (sx i 2) x
  | 0, ρ => rfl
  | m + 1, ρ => by rw [LY, LY, LY_u f a i x m ρ, lay_c]
theorem told_l {f : Nat → Int32} {a i m : Nat} (v2 : Int32) (hi : i < 8) (hm : m ≤ 5) (ha : a + 8 ≤ 960) (ρ : Nat → Int32) (h3 : ρ (sx i 3) = nI 0) : ∀ t j (σ : ts_S), j + t = m → (∀ j, j < 8 → σ 6 7 (a + j) = f (a + j)) → σ 6 1 = LY f a i j ρ → H_X5_isToldSo_125 (nI a) v2 (nI m) (nI i) (nI j) σ = some (none, mr σ (LY f a i m ρ))
  | 0, j, σ, e, hf, h1 => by
    rw [h_X5_isToldSo_125, if_pos (nI_le (by omega) (by omega)), show m = j by omega, ← h1, mr_id]
  | t + 1, j, σ, e, hf, h1 => by
    have l3 := LY_3 f a i j ρ h3
    have ok : okS (σ 6 1) i := ⟨hi, j, by omega, by rw [h1]; exact l3⟩
    have k5 : nK (σ 6 1) i < 5 := by unfold nK; rw [h1, l3, nI_clamp (by omega)]; omega
    have ev : σ 6 7 (a + 3 + j) = f (a + 3 + j) := by
      rw [show a + 3 + j = a + (3 + j) by omega]; exact hf _ (by omega)
    rw [h_X5_isToldSo_125, if_neg (nI_ge (by omega) (by omega)), nI_add, nI_add, ck_n _ (by omega) (by omega), nI_clamp (by omega), ev, m_lays _ σ ok k5, bi_s, nI_add, told_l v2 hi hm ha ρ h3 t (j + 1) (mr σ (S_lay (σ 6 1) i (f (a + 3 + j)))) (by omega) hf (by rw [mr_rd, h1, LY]), mr_mr]
theorem told_sill {f ρ : Nat → Int32} {a kd m : Nat} {x : Int32} (W : WR ρ) (h8 : nS ρ < 8) (hk : kd < 7) (hm : m ≤ 5) (ha : a + 8 ≤ 960) (f0 : f a = nI kd) (f1 : f (a + 1) = x) (f2 : f (a + 2) = nI m) : IV f a ρ (upd (LY f a (nS ρ) m (S_new ρ (nI kd))) (sx (nS ρ) 2) x) := by
  intro σ hf h1
  have g0 : σ 6 7 a = nI kd := (hf 0 (by omega)).trans f0
  have g1 : σ 6 7 (a + 1) = x := (hf 1 (by omega)).trans f1
  have g2 : σ 6 7 (a + 2) = nI m := (hf 2 (by omega)).trans f2
  have W' : WR (σ 6 1) := by rw [h1]; exact W
  have c := m_comes (nI kd) σ W' (by rw [h1]; exact h8)
  rw [h1] at c
  have q : sx (nS ρ) 2 < 93 := sx_lt h8 (by omega)
  rw [e_X5_isToldSo, nI_add, nI_add, ck_n _ (show a + 1 < 960 by omega) (by omega), ni_s, ck_n _ (show a + 2 < 960 by omega) (by omega), ni_s, ck_n _ (show a < 960 by omega) (by omega), nI_clamp (show a + 1 < 2 ^ 31 by omega), nI_clamp (show a + 2 < 2 ^ 31 by omega), nI_clamp (show a < 2 ^ 31 by omega), g0, g1, g2, if_neg (ki_eq (by omega) (by omega) (by omega)), if_neg (ki_eq (by omega) (by omega) (by omega)), ck_n _ (show a < 960 by omega) (by omega), c, bi_s, m_sillAt, bi_s, ck_n _ (by omega) (by omega), nw_s, nI_clamp (by omega), mr_up, mr_rd, mr_mr, told_l (f := f) x h8 hm ha (upd (S_new ρ (nI kd)) (sx (nS ρ) 2) x) (by rw [upd_ne _ _ (by unfold sx; omega), S_new_n ρ _ (by omega), if_neg (by omega)]) m 0 (mr σ (upd (S_new ρ (nI kd)) (sx (nS ρ) 2) x)) (by omega) hf rfl, mr_mr, LY_u]
