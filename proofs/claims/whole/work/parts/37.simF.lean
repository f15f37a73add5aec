/-! whom to send -/
def S_bst (f : Nat → Int32) : Nat → Nat → Int32 → Int32 → Int32
  | 0, _, b, _ => b
  | t + 1, j, b, m => if m ≤ f j then S_bst f t (j + 1) b m else S_bst f t (j + 1) (nI j) (f j)
theorem upd_back (ρ : Nat → Int32) (a : Nat) (y : Int32) : upd (upd ρ a y) a (ρ a) = ρ := by
  funext b
  unfold upd
  by_cases h : b = a
  · rw [if_pos h, h]
  · rw [if_neg h]; exact if_neg h
theorem upd_uu (ρ : Nat → Int32) (a : Nat) (y z : Int32) : upd (upd ρ a y) a z = upd ρ a z := by
  funext b
  unfold upd
  by_cases h : b = a
  · rw [if_pos h, if_pos h]
  · rw [if_neg h, if_neg h]; exact (if_neg h).symm
theorem upd_same (ρ : Nat → Int32) (a : Nat) : upd ρ a (ρ a) = ρ := by
  funext b
  unfold upd
  by_cases h : b = a
  · rw [if_pos h, h]
  · rw [if_neg h]
theorem mma (σ : ts_S) (a b : Nat → Int32) (x y : Nat → Int32) : mr (ma (ma (mr σ x) a) b) y = mr (ma σ b) y := by
  rw [ma_ma, mr_ma, mr_ma, mr_mr]
theorem m_least_l {ρ : Nat → Int32} {a b m n : Nat} (ha : a < 111) (hm : m < 2 ^ 30) (hn : n < 2 ^ 31) (hW : ∀ j, j < m → WR (upd ρ a (nI (b + j)))) : ∀ t j (best few : Int32) (σ : ts_S) (y : Int32), j + t = m → σ 6 1 = upd ρ a y → ∃ α, H_X5_leastLost_18 (nI a) (nI b) (nI m) (nI n) (ρ a) best few (nI j) σ = some (some (.inl (S_bst (fun j => S_days (upd ρ a (nI (b + j))) n 4) t j best few)), mr (ma σ α) ρ)
  | 0, j, best, few, σ, y, e, h => by
    refine ⟨σ 6 3, ?_⟩
    rw [h_X5_leastLost_18, if_pos (nI_le (by omega) (by omega)), ck_n _ ha (by omega), nw_s, nI_clamp (by omega), mr_up, h, upd_back, S_bst]
    rw [show ma σ (σ 6 3) = σ by unfold ma; rw [up_id, up_id]]
  | t + 1, j, best, few, σ, y, e, h => by
    have e1 := m_behind (a := 4) (n := n) (mr σ (upd ρ a (nI (b + j)))) (by omega) hn (hW j (by omega))
    rw [mr_rd] at e1
    obtain ⟨α1, i1⟩ := m_least_l ha hm hn hW t (j + 1) best few (ma (mr σ (upd ρ a (nI (b + j)))) (cpR (upd ρ a (nI (b + j))) (mr σ (upd ρ a (nI (b + j))) 6 3))) (nI (b + j)) (by omega) rfl
    obtain ⟨α2, i2⟩ := m_least_l ha hm hn hW t (j + 1) (nI j) (S_days (upd ρ a (nI (b + j))) n 4) (ma (mr σ (upd ρ a (nI (b + j)))) (cpR (upd ρ a (nI (b + j))) (mr σ (upd ρ a (nI (b + j))) 6 3))) (nI (b + j)) (by omega) rfl
    rw [mma] at i1 i2
    rw [h_X5_leastLost_18, if_neg (nI_ge (by omega) (by omega)), ck_n _ ha (by omega), nw_s, nI_clamp (by omega), mr_up, h, upd_uu, nI_add, e1, bi_s, nI_add, S_bst]
    by_cases q : few ≤ S_days (upd ρ a (nI (b + j))) n 4
    · exact ⟨α1, by rw [if_pos q, if_pos q, i1]⟩
    · exact ⟨α2, by rw [if_neg q, if_neg q, i2]⟩
theorem m_leastLost {a b m n : Nat} (ha : a < 111) (hm : m < 2 ^ 30) (hn : n < 2 ^ 31) (σ : ts_S) (hW : ∀ j, j < m → WR (upd (σ 6 1) a (nI (b + j)))) : ∃ α, F_X5_leastLost [.inr (.inr (.inl (6, 0))), .inl (nI a), .inl (nI b), .inl (nI m), .inl (nI n)] σ = some (some (.inl (S_bst (fun j => S_days (upd (σ 6 1) a (nI (b + j))) n 4) m 0 (nI 0) (nI 100000))), ma σ α) := by
  obtain ⟨α, e⟩ := m_least_l ha hm hn hW m 0 (nI 0) (nI 100000) σ (σ 6 1 a) (by omega) (upd_same _ _).symm
  refine ⟨α, ?_⟩
  rw [e_X5_leastLost, ck_n _ ha (by omega), ni_s, nI_clamp (by omega), e, mr_ma_id _ _ _ rfl]
theorem c_sillFor_l {ρ : Nat → Int32} {i p n : Nat} (hi : i < 6) (hp : p < 6) (hn : n < 2 ^ 31) : ∀ t j (best few : Int32) (σ : ts_S), j + t = 8 → RQ (σ 1) ρ → ∃ τ, H_X4_sillFor_48 (nI i) (nI n) (nI p) best few (nI j) σ = some (some (.inl (S_bst (fun j => S_days (upd ρ (5 + i) (nI (p * 10 + j))) n 4) t j best few)), va_up σ 2 τ)
  | 0, j, best, few, σ, e, R => ⟨σ 2, by rw [h_X4_sillFor_48, if_pos (nI_le (by omega) (by omega)), S_bst, up_id]⟩
  | t + 1, j, best, few, σ, e, R => by
    obtain ⟨τ, e1, R1⟩ := c_begin σ R
    have W' := WR_head R.1 (a := 5 + i) (v := nI (p * 10 + j)) (by omega) (by omega) (by omega) (fun h => by omega) (fun h => by omega) (fun _ => ⟨p, j, hp, by omega, by rw [Nat.mul_comm]⟩) (fun h => by omega)
    have R2 := RQ_head R1 (c := 1) (j := i) (a := 5 + i) W' (by omega)
    obtain ⟨τ3, e3, R3⟩ := c_passDays hq2 (n := n) (va_up σ 2 (qu τ 1 i (nI (p * 10 + j)))) hn (by rw [up_at]; exact R2)
    obtain ⟨τ4, e4⟩ := c_sillFor_l hi hp hn t (j + 1) best few (va_up σ 2 τ3) (by omega) R
    obtain ⟨τ5, e5⟩ := c_sillFor_l hi hp hn t (j + 1) (nI j) (S_days (upd ρ (5 + i) (nI (p * 10 + j))) n 4) (va_up σ 2 τ3) (by omega) R
    rw [up_uu] at e4 e5
    rw [h_X4_sillFor_48, if_neg (nI_ge (by omega) (by omega)), e1, bv_s, ck_n _ hi (by omega), nw_s, nI_clamp (by omega), pk_mul, nI_add, Nat.mul_comm 10 p, qu_up, up_uu, up_at, e3, bv_s, up_uu, up_at, R3.2.1.2.2.2.2, ni_s, nI_add, S_bst]
    by_cases q : few ≤ S_days (upd ρ (5 + i) (nI (p * 10 + j))) n 4
    · exact ⟨τ4, by rw [if_pos q, if_pos q, e4]⟩
    · exact ⟨τ5, by rw [if_neg q, if_neg q, e5]⟩
theorem sim_sillFor (a1 a2 : Int32) : SIM F_X4_sillFor F_X5_sillFor [.inl a1, .inl a2] := by
  intro σ I
  have R := INV_R I
  have W := R.1
  by_cases h1 : nI 0 ≤ a1 ∧ a1 < nI 6
  · by_cases h2 : nI 0 ≤ a2 ∧ a2 < nI 61
    · obtain ⟨i, hi, rfl⟩ := in_of (by omega) h1
      obtain ⟨n, hn, rfl⟩ := in_of (by omega) h2
      obtain ⟨p, s, hp, hs, es⟩ := W.2.2.2.2.1 i hi
      have d1 : nI (10 * p + s) / nI 10 = nI p := by rw [pk_div (by omega) (by omega) (by omega)]; congr 1; omega
      obtain ⟨τ, e1⟩ := c_sillFor_l hi hp (show n < 2 ^ 31 by omega) 8 0 (nI 0) (nI 100000) σ (by omega) R
      obtain ⟨α, e2⟩ := m_leastLost (a := 5 + i) (b := p * 10) (m := 8) (n := n) (by omega) (by omega) (by omega) (va_up σ 2 τ) (fun j hj => WR_head W (a := 5 + i) (v := nI (p * 10 + j)) (by omega) (by omega) (by omega) (fun h => by omega) (fun h => by omega) (fun _ => ⟨p, j, hp, hj, by rw [Nat.mul_comm]⟩) (fun h => by omega))
      apply sim_mk (σ2 := ma (va_up σ 2 τ) α) (h3 := I)
      · rw [e_X4_sillFor, below_t σ h1, bi_s, if_neg n10, cw_t (n := 60) σ (by omega) h2, bi_s, if_neg n10, ck_n _ hi (by omega), ni_s, nI_clamp (by omega), R.2.2.1 i hi, es, d1]
        exact e1
      · have es' : (va_up σ 2 τ) 6 1 (5 + i) = nI (10 * p + s) := es
        rw [e_X5_sillFor, place_t _ h1, bi_s, if_neg n10, thought_t _ h2, bi_s, if_neg n10, nI_add, ck_n _ (by omega) (by omega), nI_clamp (by omega), es', d1, pk_mul, e2, bi_s]
        rfl
    · obtain ⟨A, e1, σ2, e2, I2⟩ := find0 I
      apply sim_mk (h3 := I2)
      · rw [e_X4_sillFor, below_t σ h1, bi_s, if_neg n10, cw_f (n := 60) σ (by omega) h2, bi_s, if_pos rfl, e1, bi_s]
      · rw [e_X5_sillFor, place_t _ h1, bi_s, if_neg n10, thought_f _ h2, bi_s, if_pos rfl, e2, bi_s]
  · obtain ⟨A, e1, σ2, e2, I2⟩ := find0 I
    apply sim_mk (h3 := I2)
    · rw [e_X4_sillFor, below_f σ h1, bi_s, if_pos rfl, e1, bi_s]
    · rw [e_X5_sillFor, place_f _ h1, bi_s, if_pos rfl, e2, bi_s]
theorem c_kindFor_l {ρ : Nat → Int32} {i n : Nat} (hi : i < nS ρ) (hn : n < 2 ^ 31) : ∀ t j (best few : Int32) (σ : ts_S), j + t = 7 → RQ (σ 1) ρ → ∃ τ, H_X4_kindFor_36 (nI i) (nI n) best few (nI j) σ = some (some (.inl (S_bst (fun j => S_days (upd ρ (sx i 0) (nI (0 + j))) n 4) t j best few)), va_up σ 2 τ)
  | 0, j, best, few, σ, e, R => ⟨σ 2, by rw [h_X4_kindFor_36, if_pos (nI_le (by omega) (by omega)), S_bst, up_id]⟩
  | t + 1, j, best, few, σ, e, R => by
    have i8 := WR_i8 R.1 hi
    obtain ⟨τ, e1, R1⟩ := c_begin σ R
    have W' := WR_sf R.1 hi (f := 0) (by omega) (v := nI j) (fun _ => ⟨j, by omega, rfl⟩) (fun h => by omega) (fun h => by omega)
    have R2 := RQ_sx R1 hi (f := 0) (by omega) W'
    obtain ⟨τ3, e3, R3⟩ := c_passDays hq2 (n := n) (va_up σ 2 (qu τ 2 i (nI j))) hn (by rw [up_at]; exact R2)
    obtain ⟨τ4, e4⟩ := c_kindFor_l hi hn t (j + 1) best few (va_up σ 2 τ3) (by omega) R
    obtain ⟨τ5, e5⟩ := c_kindFor_l hi hn t (j + 1) (nI j) (S_days (upd ρ (sx i 0) (nI (0 + j))) n 4) (va_up σ 2 τ3) (by omega) R
    rw [up_uu] at e4 e5
    rw [h_X4_kindFor_36, if_neg (nI_ge (by omega) (by omega)), e1, bv_s, ck_n _ i8 (by omega), nw_s, nI_clamp (by omega), qu_up, up_uu, up_at, e3, bv_s, up_uu, up_at, R3.2.1.2.2.2.2, ni_s, nI_add, S_bst]
    rw [Nat.zero_add] at e5 ⊢
    by_cases q : few ≤ S_days (upd ρ (sx i 0) (nI j)) n 4
    · exact ⟨τ4, by rw [if_pos q, if_pos q, e4]⟩
    · exact ⟨τ5, by rw [if_neg q, if_neg q, e5]⟩
theorem sim_kindFor (a1 a2 : Int32) : SIM F_X4_kindFor F_X5_kindFor [.inl a1, .inl a2] := by
  intro σ I
  have R := INV_R I
  have W := R.1
  have hS := W.2.1
  by_cases h1 : nI 0 ≤ a1 ∧ a1 < nI (nS (σ 6 1))
  · by_cases h2 : nI 0 ≤ a2 ∧ a2 < nI 61
    · obtain ⟨i, hi, rfl⟩ := in_of (by omega) h1
      obtain ⟨n, hn, rfl⟩ := in_of (by omega) h2
      have i8 := WR_i8 W hi
      obtain ⟨τ, e1⟩ := c_kindFor_l hi (show n < 2 ^ 31 by omega) 7 0 (nI 0) (nI 100000) σ (by omega) R
      obtain ⟨α, e2⟩ := m_leastLost (a := sx i 0) (b := 0) (m := 7) (n := n) (by unfold sx; omega) (by omega) (by omega) (va_up σ 2 τ) (fun j hj => WR_sf W hi (f := 0) (by omega) (v := nI (0 + j)) (fun _ => ⟨j, by omega, by rw [Nat.zero_add]⟩) (fun h => by omega) (fun h => by omega))
      apply sim_mk (σ2 := ma (va_up σ 2 τ) α) (h3 := I)
      · rw [e_X4_kindFor, c_isSill_t hq1 σ R h1, bi_s, if_neg n10, cw_t (n := 60) σ (by omega) h2, bi_s, if_neg n10]
        exact e1
      · rw [e_X5_kindFor, ms_t (va_up σ 2 τ) W h1, bi_s, if_neg n10, thought_t _ h2, bi_s, if_neg n10, m_sillAt, bi_s, e2, bi_s]
        rfl
    · obtain ⟨A, e1, σ2, e2, I2⟩ := find0 I
      apply sim_mk (h3 := I2)
      · rw [e_X4_kindFor, c_isSill_t hq1 σ R h1, bi_s, if_neg n10, cw_f (n := 60) σ (by omega) h2, bi_s, if_pos rfl, e1, bi_s]
      · rw [e_X5_kindFor, ms_t (va_up σ 0 A) W h1, bi_s, if_neg n10, thought_f _ h2, bi_s, if_pos rfl, e2, bi_s]
  · obtain ⟨A, e1, σ2, e2, I2⟩ := find0 I
    apply sim_mk (h3 := I2)
    · rw [e_X4_kindFor, c_isSill_f hq1 σ R h1, bi_s, if_pos rfl, e1, bi_s]
    · rw [e_X5_kindFor, ms_f (va_up σ 0 A) W h1, bi_s, if_pos rfl, e2, bi_s]
/-! wordFor -/
abbrev P_wf (ρ : Nat → Int32) (f t n : Nat) (w : Nat) : Prop := ¬ S_bit (ρ (px t 0)) (nI w) = nI 1 ∧ S_bit (S_days (upd ρ (px f 0) (nI 1 <<< (nI w &&& nI 31))) n (px t 0)) (nI w) = nI 1
theorem WR_wf {ρ : Nat → Int32} (W : WR ρ) {f w : Nat} (hf : f < nP ρ) (hw : w < 12) : WR (upd ρ (px f 0) (nI 1 <<< (nI w &&& nI 31))) := by
  have q : 2 ^ w < 2 ^ 12 := Nat.pow_lt_pow_right (by omega) hw
  exact WR_has W hf ⟨2 ^ w, by omega, sh_bit hw⟩
theorem c_wf_l {ρ : Nat → Int32} {f t n : Nat} (hf : f < nP ρ) (ht : t < nP ρ) (hn : n < 2 ^ 31) : ∀ k j (σ : ts_S), j + k = 12 → RQ (σ 1) ρ → ∃ τ, H_X4_wordFor_46 (nI f) (nI t) (nI n) (nI j) σ = fin3 (S_le (P_wf ρ f t n) k j) (va_up σ 2 τ)
  | 0, j, σ, e, R => ⟨σ 2, by rw [h_X4_wordFor_46, if_pos (nI_le (by omega) (by omega)), S_le, fin3, if_pos rfl, up_id]⟩
  | k + 1, j, σ, e, R => by
    have f6 := WR_p6 R.1 hf
    have t6 := WR_p6 R.1 ht
    have e7 := (RQ_P R ht).1
    rw [h_X4_wordFor_46, if_neg (nI_ge (by omega) (by omega)), S_le, nI_add]
    rcases S_bit_01 (ρ (px t 0)) (nI j) with q | q
    · obtain ⟨τ, e1, R1⟩ := c_begin σ R
      have W' := WR_wf R.1 hf (show j < 12 by omega)
      have R2 := RQ_px R1 hf (f := 0) (by omega) W'
      obtain ⟨τ3, e3, R3⟩ := c_passDays hq2 (n := n) (va_up σ 2 (qu τ 7 f (nI 1 <<< (nI j &&& nI 31)))) hn (by rw [up_at]; exact R2)
      have eP : nP (upd ρ (px f 0) (nI 1 <<< (nI j &&& nI 31))) = nP ρ := nP_upd (by unfold px; omega)
      have r7 := (RQ_P R3 (p := t) (by rw [(S_days_np W' n).2, eP]; exact ht)).1
      rw [c_hasWord_f hq1 _ σ t6 (by rw [e7]; exact q), bi_s, if_pos rfl, e1, bv_s, ck_n _ f6 (by omega), nw_s, nI_clamp (show f < 2 ^ 31 by omega), qu_up, up_uu, up_at, e3, bv_s, up_uu]
      rcases S_bit_01 (S_days (upd ρ (px f 0) (nI 1 <<< (nI j &&& nI 31))) n (px t 0)) (nI j) with z | z
      · obtain ⟨τ4, e4⟩ := c_wf_l hf ht hn k (j + 1) (va_up σ 2 τ3) (by omega) R
        refine ⟨τ4, ?_⟩
        rw [up_uu] at e4
        rw [c_hasWord_f hq2 _ (va_up σ 2 τ3) t6 (by rw [up_at, r7]; exact z), bi_s, if_pos rfl, if_neg (fun y => absurd (z.symm.trans y.2) n01), e4]
      · refine ⟨τ3, ?_⟩
        rw [c_hasWord_t hq2 _ (va_up σ 2 τ3) t6 (by rw [up_at, r7]; exact z), bi_s, if_neg n10, if_pos ⟨by rw [q]; exact n01, z⟩, fin3, if_neg (nm (by omega))]
    · obtain ⟨τ4, e4⟩ := c_wf_l hf ht hn k (j + 1) σ (by omega) R
      refine ⟨τ4, ?_⟩
      rw [c_hasWord_t hq1 _ σ t6 (by rw [e7]; exact q), bi_s, if_neg n10, if_neg (fun y => y.1 q), e4]
theorem m_wf_l {ρ : Nat → Int32} (W : WR ρ) {f t n : Nat} (hf : f < nP ρ) (ht : t < nP ρ) (hft : ¬ f = t) (hn : n < 2 ^ 31) : ∀ k j (σ : ts_S) (y : Int32), j + k = 12 → σ 6 1 = upd ρ (px f 0) y → ∃ α, H_X5_wordFor_57 (nI f) (nI t) (nI n) (nI (px f 0)) (ρ (px f 0)) (-1) (nI j) σ = mfin (S_le (P_wf ρ f t n) k j) (mr (ma σ α) ρ)
  | 0, j, σ, y, e, h => by
    have f6 := WR_p6 W hf
    have q0 : px f 0 < 111 := px_lt f6 (by omega)
    refine ⟨σ 6 3, ?_⟩
    rw [h_X5_wordFor_57, if_pos (nI_le (by omega) (by omega)), ck_n _ q0 (by omega), nw_s, nI_clamp (by omega), mr_up, h, upd_back, S_le]
    rw [show ma σ (σ 6 3) = σ by unfold ma; rw [up_id, up_id]]
    rfl
  | k + 1, j, σ, y, e, h => by
    have f6 := WR_p6 W hf
    have t6 := WR_p6 W ht
    have q0 : px f 0 < 111 := px_lt f6 (by omega)
    have hb : ∀ x y : Int32, ((x >>> (y &&& nI 31)) &&& nI 1) = S_bit x y := fun _ _ => rfl
    have nt : ¬ px t 0 = px f 0 := by unfold px; omega
    rw [h_X5_wordFor_57, if_neg (nI_ge (by omega) (by omega)), if_neg m1ge, ck_n _ q0 (by omega), nw_s, nI_clamp (by omega), mr_up, h, upd_uu, m_hasWord _ _ t6, bi_s, mr_rd, upd_ne _ _ nt, S_le, nI_add]
    by_cases q : S_bit (ρ (px t 0)) (nI j) = nI 1
    · obtain ⟨α, i1⟩ := m_wf_l W hf ht hft hn k (j + 1) (mr σ (upd ρ (px f 0) (nI 1 <<< (nI j &&& nI 31)))) _ (by omega) rfl
      refine ⟨α, ?_⟩
      rw [if_pos q, if_neg n10, if_pos rfl, if_neg (fun z => z.1 q), i1, mr_ma, mr_mr, mr_ma]
    · have W' := WR_wf W hf (show j < 12 by omega)
      have e1 := m_behind (a := px t 0) (n := n) (mr σ (upd ρ (px f 0) (nI 1 <<< (nI j &&& nI 31)))) (px_lt t6 (by omega)) hn W'
      rw [mr_rd] at e1
      rw [if_neg q, if_pos rfl, m_personAt, bi_s, e1, bi_s, hb]
      by_cases z : S_bit (S_days (upd ρ (px f 0) (nI 1 <<< (nI j &&& nI 31))) n (px t 0)) (nI j) = nI 1
      · refine ⟨cpR (upd ρ (px f 0) (nI 1 <<< (nI j &&& nI 31))) (mr σ (upd ρ (px f 0) (nI 1 <<< (nI j &&& nI 31))) 6 3), ?_⟩
        rw [if_pos z, if_neg n10, if_pos ⟨q, z⟩, h_X5_wordFor_57, ck_n _ q0 (by omega), nw_s, nI_clamp (by omega), mr_up]
        have r : (ma (mr σ (upd ρ (px f 0) (nI 1 <<< (nI j &&& nI 31)))) (cpR (upd ρ (px f 0) (nI 1 <<< (nI j &&& nI 31))) (mr σ (upd ρ (px f 0) (nI 1 <<< (nI j &&& nI 31))) 6 3))) 6 1 = upd ρ (px f 0) (nI 1 <<< (nI j &&& nI 31)) := rfl
        rw [r, upd_back, mr_ma, mr_mr, ← mr_ma, if_pos (nge (show j < 2 ^ 31 by omega))]
        split <;> rfl
      · obtain ⟨α, i1⟩ := m_wf_l W hf ht hft hn k (j + 1) (ma (mr σ (upd ρ (px f 0) (nI 1 <<< (nI j &&& nI 31)))) (cpR (upd ρ (px f 0) (nI 1 <<< (nI j &&& nI 31))) (mr σ (upd ρ (px f 0) (nI 1 <<< (nI j &&& nI 31))) 6 3))) _ (by omega) rfl
        refine ⟨α, ?_⟩
        rw [mma] at i1
        rw [if_neg z, if_pos rfl, if_neg (fun y => z y.2), i1]
theorem sim_wordFor (a1 a2 a3 : Int32) : SIM F_X4_wordFor F_X5_wordFor [.inl a1, .inl a2, .inl a3] := by
  intro σ I
  have R := INV_R I
  have W := R.1
  have hP := W.2.2.1
  by_cases h1 : nI 0 ≤ a1 ∧ a1 < nI (nP (σ 6 1))
  · by_cases h2 : nI 0 ≤ a2 ∧ a2 < nI (nP (σ 6 1))
    · by_cases h4 : a1 = a2
      · obtain ⟨A, e1, σ2, e2, I2⟩ := find0 I
        apply sim_mk (h3 := I2)
        · rw [e_X4_wordFor, c_isPerson_t hq1 σ R h1, bi_s, if_neg n10, c_isPerson_t hq1 σ R h2, bi_s, if_neg n10, if_pos h4, e1, bi_s]
        · rw [e_X5_wordFor, mp_t (va_up σ 0 A) W h1, bi_s, if_neg n10, mp_t (va_up σ 0 A) W h2, bi_s, if_neg n10, if_pos h4, e2, bi_s]
      · by_cases h3 : nI 0 ≤ a3 ∧ a3 < nI 61
        · obtain ⟨f, hf, rfl⟩ := in_of (by omega) h1
          obtain ⟨t, ht, rfl⟩ := in_of (by omega) h2
          obtain ⟨n, hn, rfl⟩ := in_of (by omega) h3
          have f6 := WR_p6 W hf
          have hft : ¬ f = t := fun e => h4 (by rw [e])
          obtain ⟨τ, e1⟩ := c_wf_l hf ht (show n < 2 ^ 31 by omega) 12 0 σ (by omega) R
          refine sim_fin I (S_le_or (P_wf (σ 6 1) f t n) 12 0 (by omega)) (τ := τ) ?_ (fun σ1 h6 h5 => ?_)
          · rw [e_X4_wordFor, c_isPerson_t hq1 σ R h1, bi_s, if_neg n10, c_isPerson_t hq1 σ R h2, bi_s, if_neg n10, if_neg h4, cw_t (n := 60) σ (by omega) h3, bi_s, if_neg n10]
            exact e1
          · have W1 : WR (σ1 6 1) := by rw [h6]; exact W
            obtain ⟨α, e3⟩ := m_wf_l W1 (by rw [h6]; exact hf) (by rw [h6]; exact ht) hft (show n < 2 ^ 31 by omega) 12 0 σ1 (σ1 6 1 (px f 0)) (by omega) (upd_same _ _).symm
            refine ⟨α, ?_⟩
            rw [mr_ma_id _ _ _ rfl] at e3
            rw [e_X5_wordFor, mp_t σ1 W1 (by rw [h6]; exact h1), bi_s, if_neg n10, mp_t σ1 W1 (by rw [h6]; exact h2), bi_s, if_neg n10, if_neg h4, thought_t _ h3, bi_s, if_neg n10, m_personAt, bi_s, ck_n _ (px_lt f6 (by omega)) (by omega), ni_s, nI_clamp (by have := px_lt f6 (show 0 < 3 by omega); omega)]
            rw [h6] at e3 ⊢
            exact e3
        · obtain ⟨A, e1, σ2, e2, I2⟩ := find0 I
          apply sim_mk (h3 := I2)
          · rw [e_X4_wordFor, c_isPerson_t hq1 σ R h1, bi_s, if_neg n10, c_isPerson_t hq1 σ R h2, bi_s, if_neg n10, if_neg h4, cw_f (n := 60) σ (by omega) h3, bi_s, if_pos rfl, e1, bi_s]
          · rw [e_X5_wordFor, mp_t (va_up σ 0 A) W h1, bi_s, if_neg n10, mp_t (va_up σ 0 A) W h2, bi_s, if_neg n10, if_neg h4, thought_f _ h3, bi_s, if_pos rfl, e2, bi_s]
    · obtain ⟨A, e1, σ2, e2, I2⟩ := find0 I
      apply sim_mk (h3 := I2)
      · rw [e_X4_wordFor, c_isPerson_t hq1 σ R h1, bi_s, if_neg n10, c_isPerson_f hq1 σ R h2, bi_s, if_pos rfl, e1, bi_s]
      · rw [e_X5_wordFor, mp_t (va_up σ 0 A) W h1, bi_s, if_neg n10, mp_f (va_up σ 0 A) W h2, bi_s, if_pos rfl, e2, bi_s]
  · obtain ⟨A, e1, σ2, e2, I2⟩ := find0 I
    apply sim_mk (h3 := I2)
    · rw [e_X4_wordFor, c_isPerson_f hq1 σ R h1, bi_s, if_pos rfl, e1, bi_s]
    · rw [e_X5_wordFor, mp_f (va_up σ 0 A) W h1, bi_s, if_pos rfl, e2, bi_s]
