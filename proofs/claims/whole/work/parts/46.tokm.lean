/-! the model's tokens -/
theorem m_byte_o {σ : ts_S} {z f : Nat → Int32} {k j : Nat} (e6 : z 6 = nI k) (hj : k ≤ j) (hj2 : j < 2 ^ 31) : F_X5_byteAt [.inr (.inr (.inl (6, 0))), .inl (nI j)] (mz σ z f) = some (some (.inl (-1)), mz σ z f) := by
  rw [e_X5_byteAt, mz_r, e6, if_pos (nI_le hj hj2)]
theorem m_byte_i {σ : ts_S} {z f h : Nat → Int32} {k j : Nat} (e6 : z 6 = nI k) (hk : k ≤ 120) (hm : ∀ i, i < k → σ 6 5 i = h i) (hj : j < k) : F_X5_byteAt [.inr (.inr (.inl (6, 0))), .inl (nI j)] (mz σ z f) = some (some (.inl (h j)), mz σ z f) := by
  rw [e_X5_byteAt, mz_r, e6, if_neg (nI_ge hj (by omega)), ck_n _ (show j < 120 by omega) (by omega), mz_5, nI_clamp (by omega), hm j hj]
theorem m_wd {σ : ts_S} {f h : Nat → Int32} {k : Nat} (v : Int32) (hk : k ≤ 120) (hm : ∀ i, i < k → σ 6 5 i = h i) : ∀ t j (z : Nat → Int32), j + t = k → z 6 = nI k → z 8 = nI j → ∃ z', H_X5_token_84 v (mz σ z f) = some (none, mz σ z' f) ∧ z' 8 = nI (T_wd h t j) ∧ ∀ i, ¬ i = 8 → z' i = z i
  | 0, j, z, e, e6, e8 => ⟨z, by rw [h_X5_token_84, mz_r, e8, m_byte_o e6 (by omega) (by omega), bi_s, mwithin_f _ (by decide), bi_s, if_pos rfl], e8, fun i _ => rfl⟩
  | t + 1, j, z, e, e6, e8 => by
    rw [h_X5_token_84, mz_r, e8, m_byte_i e6 hk hm (by omega), bi_s, T_wd]
    by_cases q : isL (h j)
    · obtain ⟨z', h1, h2, h3⟩ := m_wd v hk hm t (j + 1) (upd z 8 (nI (j + 1))) (by omega) (by rw [upd_ne _ _ (by omega)]; exact e6) (upd_at _ _ _)
      refine ⟨z', ?_, by rw [if_pos q]; exact h2, fun i hi => by rw [h3 i hi, upd_ne _ _ hi]⟩
      rw [mwithin_t _ q, bi_s, if_neg n10, nw_s, mz_r, e8, nI_add, mz_u]; exact h1
    · exact ⟨z, by rw [mwithin_f _ q, bi_s, if_pos rfl], by rw [if_neg q]; exact e8, fun i _ => rfl⟩
theorem m_nu {σ : ts_S} {f h : Nat → Int32} {k : Nat} (v : Int32) (hB : TB h k) (hm : ∀ i, i < k → σ 6 5 i = h i) : ∀ t j n (z : Nat → Int32), j + t = k → n ≤ 10000 → z 6 = nI k → z 8 = nI j → z 10 = nI n → ∃ z', H_X5_token_131 v (mz σ z f) = some (none, mz σ z' f) ∧ z' 8 = nI (T_nu h t j n).1 ∧ z' 10 = nI (T_nu h t j n).2 ∧ ∀ i, ¬ i = 8 → ¬ i = 10 → z' i = z i
  | 0, j, n, z, e, hn, e6, e8, e10 => ⟨z, by have := hB.1; rw [h_X5_token_131, mz_r, e8, m_byte_o e6 (by omega) (by omega), bi_s, mwithin_f _ (by decide), bi_s, if_pos rfl], e8, e10, fun i _ _ => rfl⟩
  | t + 1, j, n, z, e, hn, e6, e8, e10 => by
    have hk := hB.1
    obtain ⟨b, hb, eb⟩ := hB.2 j (by omega)
    rw [h_X5_token_131, mz_r, e8, m_byte_i e6 hk hm (by omega), bi_s, T_nu]
    by_cases q : isD (h j)
    · have q' : isD (nI b) := by rw [← eb]; exact q
      have cl : (h j).toNatClampNeg = b := by rw [eb, nI_clamp (by omega)]
      obtain ⟨z', h1, h2, h3, h4⟩ := m_nu v hB hm t (j + 1) (T_m n b) (upd (upd z 10 (nI (T_m n b))) 8 (nI (j + 1))) (by omega) (T_m_le _ _) (by rw [upd_ne _ _ (by omega), upd_ne _ _ (by omega)]; exact e6) (upd_at _ _ _) (by rw [upd_ne _ _ (by omega), upd_at])
      refine ⟨z', ?_, by rw [if_pos q, cl]; exact h2, by rw [if_pos q, cl]; exact h3, fun i hi hi2 => by rw [h4 i hi hi2, upd_ne _ _ hi, upd_ne _ _ hi2]⟩
      rw [mwithin_t _ q, bi_s, if_neg n10, mz_r, e8, m_byte_i e6 hk hm (by omega), bi_s, mz_r, e10, eb, min_e, bi_s, (T_min n b hn hb (isD_b hb q')).2, nw_s, mz_u, nw_s, mz_r, upd_ne _ _ (show ¬ 8 = 10 by omega), e8, nI_add, mz_u]; exact h1
    · exact ⟨z, by rw [mwithin_f _ q, bi_s, if_pos rfl], by rw [if_neg q]; exact e8, by rw [if_neg q]; exact e10, fun i _ _ => rfl⟩
theorem b_ge {h : Nat → Int32} {k j : Nat} (hB : TB h k) (hj : j < k) : nI 0 ≤ h j := by
  obtain ⟨b, hb, eb⟩ := hB.2 j hj
  rw [eb]; exact nge (by omega)
theorem m_sp {σ : ts_S} {f h : Nat → Int32} {k : Nat} (hB : TB h k) (hm : ∀ i, i < k → σ 6 5 i = h i) : ∀ t j (z : Nat → Int32), j + t = k → z 6 = nI k → z 7 = nI j → ∃ z', H_X5_token_8 (mz σ z f) = some (none, mz σ z' f) ∧ ZT z' h k (T_sp h t j) ∧ ∀ i, ¬ (7 ≤ i ∧ i ≤ 10) → z' i = z i
  | 0, j, z, e, e6, e7 => by
    have hk := hB.1
    have hj : j = k := by omega
    refine ⟨upd (upd (upd z 8 (nI j)) 10 (nI 0)) 9 (nI 0), ?_, ⟨?_, ?_, ?_, ?_, ?_⟩, fun i hi => ?_⟩
    · rw [h_X5_token_8, mz_r, e7, m_byte_o e6 (by omega) (by omega), bi_s, if_neg (by decide), mz_r, e7, m_byte_o e6 (by omega) (by omega), bi_s, nw_s, mz_r, e7, mz_u, nw_s, mz_u, if_neg m1ge, nw_s, mz_u]
    · rw [upd_ne _ _ (by omega), upd_ne _ _ (by omega), upd_ne _ _ (by omega)]; exact e6
    · rw [upd_at, T_sp, T_t, if_pos hj, if_neg (by omega)]
    · rw [upd_ne _ _ (by omega), upd_ne _ _ (by omega), upd_ne _ _ (by omega)]; exact e7
    · rw [upd_ne _ _ (by omega), upd_ne _ _ (by omega), upd_at, T_sp, T_e, if_pos hj]
    · rw [upd_ne _ _ (by omega), upd_at, T_sp, T_t, if_pos hj, if_neg (by omega)]
    · rw [upd_ne _ _ (by omega), upd_ne _ _ (by omega), upd_ne _ _ (by omega)]
  | t + 1, j, z, e, e6, e7 => by
    have hk := hB.1
    have hj : ¬ j = k := by omega
    have hj2 : j < k := by omega
    rw [T_sp, h_X5_token_8, mz_r, e7, m_byte_i e6 hk hm hj2, bi_s]
    by_cases q : h j = nI 32
    · obtain ⟨z', h1, h2, h3⟩ := m_sp hB hm t (j + 1) (upd z 7 (nI (j + 1))) (by omega) (by rw [upd_ne _ _ (by omega)]; exact e6) (upd_at _ _ _)
      refine ⟨z', ?_, by rw [if_pos q]; exact h2, fun i hi => by rw [h3 i hi, upd_ne _ _ (by omega)]⟩
      rw [if_pos q, nw_s, mz_r, e7, nI_add, mz_u]
      exact h1
    · have tj : k - j = t + 1 := by omega
      rw [if_neg q, if_neg q, mz_r, e7, m_byte_i e6 hk hm hj2, bi_s, nw_s, mz_r, e7, mz_u, nw_s, mz_u, if_pos (b_ge hB hj2)]
      have c6 : upd (upd z 8 (nI j)) 10 (nI 0) 6 = nI k := by rw [upd_ne _ _ (by omega), upd_ne _ _ (by omega)]; exact e6
      have c7 : upd (upd z 8 (nI j)) 10 (nI 0) 7 = nI j := by rw [upd_ne _ _ (by omega), upd_ne _ _ (by omega)]; exact e7
      have c8 : upd (upd z 8 (nI j)) 10 (nI 0) 8 = nI j := by rw [upd_ne _ _ (by omega), upd_at]
      by_cases p1 : isL (h j)
      · obtain ⟨z', h1, h2, h3⟩ := m_wd (f := f) (h j) hk hm (t + 1) j (upd (upd (upd z 8 (nI j)) 10 (nI 0)) 9 (nI 1)) (by omega) (by rw [upd_ne _ _ (by omega)]; exact c6) (by rw [upd_ne _ _ (by omega)]; exact c8)
        refine ⟨z', by rw [mwithin_t _ p1, bi_s, if_neg n10, nw_s, mz_u]; exact h1, ⟨by rw [h3 6 (by omega), upd_ne _ _ (by omega)]; exact c6, ?_, by rw [h3 7 (by omega), upd_ne _ _ (by omega)]; exact c7, ?_, ?_⟩, fun i hi => by rw [h3 i (by omega), upd_ne _ _ (by omega), upd_ne _ _ (by omega), upd_ne _ _ (by omega)]⟩
        · rw [h3 9 (by omega), upd_at, T_t, if_neg hj, if_pos p1, if_neg (by omega)]
        · rw [h2, T_e, if_neg hj, if_pos p1, tj]
        · rw [h3 10 (by omega), upd_ne _ _ (by omega), upd_at, T_t, if_neg hj, if_pos p1, if_neg (by omega)]
      · by_cases p2 : isD (h j)
        · obtain ⟨z', h1, h2, h3, h4⟩ := m_nu (f := f) (h j) hB hm (t + 1) j 0 (upd (upd (upd z 8 (nI j)) 10 (nI 0)) 9 (nI 2)) (by omega) (by omega) (by rw [upd_ne _ _ (by omega)]; exact c6) (by rw [upd_ne _ _ (by omega)]; exact c8) (by rw [upd_ne _ _ (by omega), upd_at])
          refine ⟨z', by rw [mwithin_f _ p1, bi_s, if_pos rfl, mwithin_t _ p2, bi_s, if_neg n10, nw_s, mz_u]; exact h1, ⟨by rw [h4 6 (by omega) (by omega), upd_ne _ _ (by omega)]; exact c6, ?_, by rw [h4 7 (by omega) (by omega), upd_ne _ _ (by omega)]; exact c7, ?_, ?_⟩, fun i hi => by rw [h4 i (by omega) (by omega), upd_ne _ _ (by omega), upd_ne _ _ (by omega), upd_ne _ _ (by omega)]⟩
          · rw [h4 9 (by omega) (by omega), upd_at, T_t, if_neg hj, if_neg p1, if_pos p2, if_neg (by omega)]
          · rw [h2, T_e, if_neg hj, if_neg p1, if_pos p2, tj]
          · rw [h3, T_v, tj, T_t, if_neg hj, if_neg p1, if_pos p2, if_pos rfl]
        · have et : T_t h k j = 3 ∨ T_t h k j = 4 := by
            unfold T_t
            rw [if_neg hj, if_neg p1, if_neg p2]
            split
            · exact Or.inl rfl
            · exact Or.inr rfl
          refine ⟨upd (upd (upd (upd z 8 (nI j)) 10 (nI 0)) 9 (nI 3)) 8 (nI (j + 1)), ?_, ⟨by rw [upd_ne _ _ (by omega), upd_ne _ _ (by omega)]; exact c6, ?_, by rw [upd_ne _ _ (by omega), upd_ne _ _ (by omega)]; exact c7, ?_, ?_⟩, fun i hi => by rw [upd_ne _ _ (by omega), upd_ne _ _ (by omega), upd_ne _ _ (by omega), upd_ne _ _ (by omega)]⟩
          · rw [mwithin_f _ p1, bi_s, if_pos rfl, mwithin_f _ p2, bi_s, if_pos rfl, nw_s, mz_u, nw_s, mz_r, upd_ne _ _ (show ¬ 8 = 9 by omega), c8, nI_add, mz_u]
          · rw [upd_ne _ _ (by omega), upd_at]
            rcases et with et | et
            · rw [et, if_neg (by omega)]
            · rw [et, if_pos rfl]
          · rw [upd_at, T_e, if_neg hj, if_neg p1, if_neg p2]
          · rw [upd_ne _ _ (by omega), upd_ne _ _ (by omega), upd_at, if_neg (by omega)]
theorem m_tok0 {σ : ts_S} {f h z : Nat → Int32} {k e : Nat} (hB : TB h k) (hm : ∀ i, i < k → σ 6 5 i = h i) (he : e ≤ k) (e6 : z 6 = nI k) (e8 : z 8 = nI e) : ∃ z', F_X5_token [.inr (.inr (.inl (6, 0)))] (mz σ z f) = some (none, mz σ z' f) ∧ ZT z' h k (T_sp h (k - e) e) ∧ ∀ i, ¬ (7 ≤ i ∧ i ≤ 10) → z' i = z i := by
  obtain ⟨z', h1, h2, h3⟩ := m_sp (f := f) hB hm (k - e) e (upd z 7 (nI e)) (by omega) (by rw [upd_ne _ _ (by omega)]; exact e6) (upd_at _ _ _)
  exact ⟨z', by rw [e_X5_token, nw_s, mz_r, e8, mz_u]; exact h1, h2, fun i hi => by rw [h3 i hi, upd_ne _ _ (by omega)]⟩
def zt (z h : Nat → Int32) (k b : Nat) : Nat → Int32 := fun i => if i = 7 then nI b else if i = 8 then nI (T_e h k b) else if i = 9 then nI (if T_t h k b = 4 then 3 else T_t h k b) else if i = 10 then nI (if T_t h k b = 2 then T_v h k b else 0) else z i
theorem zt_o (z h : Nat → Int32) (k b : Nat) {i : Nat} (hi : ¬ (7 ≤ i ∧ i ≤ 10)) : zt z h k b i = z i := by
  unfold zt
  rw [if_neg (by omega), if_neg (by omega), if_neg (by omega), if_neg (by omega)]
theorem zt_Z {z h : Nat → Int32} {k b : Nat} (e6 : z 6 = nI k) : ZT (zt z h k b) h k b := ⟨e6, rfl, rfl, rfl, rfl⟩
theorem zt_e {z z' h : Nat → Int32} {k b : Nat} (Z : ZT z' h k b) (ho : ∀ i, ¬ (7 ≤ i ∧ i ≤ 10) → z' i = z i) : z' = zt z h k b := by
  funext i
  unfold zt
  by_cases h7 : i = 7
  · rw [if_pos h7, h7]; exact Z.2.2.1
  · rw [if_neg h7]
    by_cases h8 : i = 8
    · rw [if_pos h8, h8]; exact Z.2.2.2.1
    · rw [if_neg h8]
      by_cases h9 : i = 9
      · rw [if_pos h9, h9]; exact Z.2.1
      · rw [if_neg h9]
        by_cases h10 : i = 10
        · rw [if_pos h10, h10]; exact Z.2.2.2.2
        · rw [if_neg h10]; exact ho i (by omega)
theorem m_tok1 {σ : ts_S} {f h z : Nat → Int32} {k e : Nat} (hB : TB h k) (hm : ∀ i, i < k → σ 6 5 i = h i) (he : e ≤ k) (e6 : z 6 = nI k) (e8 : z 8 = nI e) : F_X5_token [.inr (.inr (.inl (6, 0)))] (mz σ z f) = some (none, mz σ (zt z h k (T_sp h (k - e) e)) f) := by
  obtain ⟨z', h1, h2, h3⟩ := m_tok0 (f := f) hB hm he e6 e8
  rw [h1, zt_e h2 h3]
theorem m_tok {σ : ts_S} {f h z : Nat → Int32} {k b : Nat} (hB : TB h k) (hm : ∀ i, i < k → σ 6 5 i = h i) (hb : b ≤ k) (Z : ZT z h k b) : F_X5_token [.inr (.inr (.inl (6, 0)))] (mz σ z f) = some (none, mz σ (zt z h k (T_n h k b)) f) := m_tok1 hB hm (T_e_b h hb).2 Z.1 Z.2.2.2.1
/-! words -/
def ln (a : Nat) : Nat := (ts_tx.getD a []).length
def ch (a i : Nat) : Int32 := (ts_tx.getD a []).getD i 0
theorem ln_b : ∀ a, a < 13 → ln a < 20 := by decide
def WD (h : Nat → Int32) (k b a : Nat) : Prop := T_t h k b = 1 ∧ T_e h k b = b + ln a ∧ ∀ i, i < ln a → h (b + i) = ch a i
theorem slen {a : Nat} (ha : a < 13) (σ : ts_S) : F_slen [.inr (.inr (.inr a))] σ = some (some (.inl (nI (ln a))), σ) := by
  have e : Nat.blt a 13 = true := by rw [Nat.blt_eq]; exact ha
  show cond (Nat.blt a 13) _ _ = _
  rw [e]; rfl
theorem schar {a i : Nat} (ha : a < 13) (hi : i < ln a) (σ : ts_S) : F_schar [.inr (.inr (.inr a)), .inl (nI i)] σ = some (some (.inl (ch a i)), σ) := by
  have e : Nat.blt a 13 = true := by rw [Nat.blt_eq]; exact ha
  have l := ln_b a ha
  show cond (Nat.blt a 13) (ts_ck (nI i) (ln a) (some (some (.inl ((ts_tx.getD a []).getD (nI i).toNatClampNeg 0)), σ))) none = _
  rw [e, nI_clamp (by omega)]
  show ts_ck (nI i) (ln a) _ = _
  rw [ck_n _ hi (by omega)]; rfl
theorem ch_inj : ∀ a, a < 9 → ∀ c, c < 9 → ¬ a = c → ln a = ln c → ∃ i, i < ln a ∧ ¬ ch a i = ch c i := by decide +kernel
theorem WD_inj {h : Nat → Int32} {k b a c : Nat} (ha : a < 9) (hc : c < 9) (h1 : WD h k b a) (h2 : WD h k b c) : a = c := by
  apply Classical.byContradiction
  intro q
  have e : ln a = ln c := by have := h1.2.1; have := h2.2.1; omega
  obtain ⟨i, hi, ne⟩ := ch_inj a ha c hc q e
  exact ne ((h1.2.2 i hi).symm.trans (h2.2.2 i (by omega)))
theorem c_iw_t {σ : ts_S} {τ : Nat → Nat → Int32} {y : Nat → Int32} {a b : Nat} (ha : a < 13) (e3 : y 3 = nI b) (hb : b + ln a ≤ 120) (H : ∀ i, i < ln a → σ 4 1 (b + i) = ch a i) : ∀ t i, i + t = ln a → H_X3_isWord_28 a (nI i) (cs σ y τ) = some (some (.inl (nI 1)), cs σ y τ)
  | 0, i, e => by rw [h_X3_isWord_28 ha, slen ha, bi_s, if_pos (nI_le (by omega) (by have := ln_b a ha; omega))]
  | t + 1, i, e => by
    have l := ln_b a ha
    rw [h_X3_isWord_28 ha, slen ha, bi_s, if_neg (nI_ge (by omega) (by omega)), cs_r, e3, nI_add, ck_n _ (by omega) (by omega), schar ha (by omega), bi_s, cs_b, nI_clamp (by omega), if_pos (H i (by omega)), nI_add, c_iw_t ha e3 hb H t (i + 1) (by omega)]
theorem c_iw_f {σ : ts_S} {τ : Nat → Nat → Int32} {y : Nat → Int32} {a b : Nat} (ha : a < 13) (e3 : y 3 = nI b) (hb : b + ln a ≤ 120) : ∀ t i, i + t = ln a → (¬ ∀ j, i ≤ j → j < ln a → σ 4 1 (b + j) = ch a j) → H_X3_isWord_28 a (nI i) (cs σ y τ) = some (some (.inl (nI 0)), cs σ y τ)
  | 0, i, e, H => absurd (fun j h1 h2 => by omega) H
  | t + 1, i, e, H => by
    have l := ln_b a ha
    rw [h_X3_isWord_28 ha, slen ha, bi_s, if_neg (nI_ge (by omega) (by omega)), cs_r, e3, nI_add, ck_n _ (by omega) (by omega), schar ha (by omega), bi_s, cs_b, nI_clamp (by omega)]
    by_cases q : σ 4 1 (b + i) = ch a i
    · rw [if_pos q, nI_add, c_iw_f ha e3 hb t (i + 1) (by omega) (fun z => H (fun j h1 h2 => by
        by_cases e : j = i
        · subst e; exact q
        · exact z j (by omega) h2))]
    · rw [if_neg q]
theorem c_isWord_t {σ : ts_S} {τ : Nat → Nat → Int32} {y : Nat → Int32} {k b a : Nat} (ha : a < 13) (hk : k ≤ 120) (hb : b ≤ k) (Y : YT y (σ 4 1) k b) (H : WD (σ 4 1) k b a) : F_X3_isWord [.inr (.inr (.inl (4, 0))), .inr (.inr (.inr a))] (cs σ y τ) = some (some (.inl (nI 1)), cs σ y τ) := by
  have l := ln_b a ha
  have eb := T_e_b (σ 4 1) hb
  have e := H.2.1
  rw [e_X3_isWord ha, cs_r, Y.2.1, H.1, if_pos rfl, slen ha, bi_s, cs_r, cs_r, Y.2.2.2.1, Y.2.2.1, e, pk_sub (by omega), if_pos (by congr 1; omega), c_iw_t ha Y.2.2.1 (by omega) H.2.2 (ln a) 0 (by omega)]
theorem c_isWord_f {σ : ts_S} {τ : Nat → Nat → Int32} {y : Nat → Int32} {k b a : Nat} (ha : a < 13) (hk : k ≤ 120) (hb : b ≤ k) (Y : YT y (σ 4 1) k b) (H : ¬ WD (σ 4 1) k b a) : F_X3_isWord [.inr (.inr (.inl (4, 0))), .inr (.inr (.inr a))] (cs σ y τ) = some (some (.inl (nI 0)), cs σ y τ) := by
  have l := ln_b a ha
  have eb := T_e_b (σ 4 1) hb
  have tc := T_t_c (σ 4 1) k b
  rw [e_X3_isWord ha, cs_r, Y.2.1]
  by_cases q : T_t (σ 4 1) k b = 1
  · rw [q, if_pos rfl, slen ha, bi_s, cs_r, cs_r, Y.2.2.2.1, Y.2.2.1, pk_sub (by omega)]
    by_cases p : T_e (σ 4 1) k b - b = ln a
    · rw [if_pos (by rw [p]), c_iw_f ha Y.2.2.1 (by omega) (ln a) 0 (by omega) (fun z => H ⟨q, by omega, fun i hi => z i (by omega) hi⟩)]
    · rw [if_neg (ki_eq (by omega) (by omega) p)]
  · rw [if_neg (ki_eq (by omega) (by omega) q)]
theorem m_iw_0 {σ : ts_S} {a : Nat} (ha : a < 13) (i : Int32) : H_X5_isWord_32 a (nI 0) i σ = some (some (.inl (nI 0)), σ) := by
  rw [h_X5_isWord_32 ha, slen ha, bi_s, if_pos rfl, if_pos (Or.inl rfl)]
  split <;> rfl
theorem m_iw_t {σ : ts_S} {z f h : Nat → Int32} {a b : Nat} (ha : a < 13) (e7 : z 7 = nI b) (hb : b + ln a ≤ 120) (H : ∀ i, i < ln a → σ 6 5 (b + i) = ch a i) : ∀ t i, i + t = ln a → H_X5_isWord_32 a (nI 1) (nI i) (mz σ z f) = some (some (.inl (nI 1)), mz σ z f)
  | 0, i, e => by rw [h_X5_isWord_32 ha, slen ha, bi_s, if_pos (nI_le (by omega) (by have := ln_b a ha; omega)), if_pos (Or.inr rfl)]
  | t + 1, i, e => by
    have l := ln_b a ha
    rw [h_X5_isWord_32 ha, slen ha, bi_s, if_neg (nI_ge (by omega) (by omega)), if_neg n10, mz_r, e7, nI_add, ck_n _ (by omega) (by omega), schar ha (by omega), bi_s, mz_5, nI_clamp (by omega), if_pos (H i (by omega)), nI_add, m_iw_t (h := h) ha e7 hb H t (i + 1) (by omega)]
theorem m_iw_f {σ : ts_S} {z f : Nat → Int32} {a b : Nat} (ha : a < 13) (e7 : z 7 = nI b) (hb : b + ln a ≤ 120) : ∀ t i, i + t = ln a → (¬ ∀ j, i ≤ j → j < ln a → σ 6 5 (b + j) = ch a j) → H_X5_isWord_32 a (nI 1) (nI i) (mz σ z f) = some (some (.inl (nI 0)), mz σ z f)
  | 0, i, e, H => absurd (fun j h1 h2 => by omega) H
  | t + 1, i, e, H => by
    have l := ln_b a ha
    rw [h_X5_isWord_32 ha, slen ha, bi_s, if_neg (nI_ge (by omega) (by omega)), if_neg n10, mz_r, e7, nI_add, ck_n _ (by omega) (by omega), schar ha (by omega), bi_s, mz_5, nI_clamp (by omega)]
    by_cases q : σ 6 5 (b + i) = ch a i
    · rw [if_pos q, nI_add, m_iw_f ha e7 hb t (i + 1) (by omega) (fun z => H (fun j h1 h2 => by
        by_cases e : j = i
        · subst e; exact q
        · exact z j (by omega) h2))]
    · rw [if_neg q, m_iw_0 ha]
theorem m_isWord_t {σ : ts_S} {z f h : Nat → Int32} {k b a : Nat} (ha : a < 13) (hk : k ≤ 120) (hb : b ≤ k) (hm : ∀ i, i < k → σ 6 5 i = h i) (Z : ZT z h k b) (H : WD h k b a) : F_X5_isWord [.inr (.inr (.inl (6, 0))), .inr (.inr (.inr a))] (mz σ z f) = some (some (.inl (nI 1)), mz σ z f) := by
  have l := ln_b a ha
  have eb := T_e_b h hb
  have e := H.2.1
  rw [e_X5_isWord ha, mz_r, Z.2.1, H.1, if_neg (show ¬ 1 = 4 by omega), if_pos rfl, slen ha, bi_s, mz_r, mz_r, Z.2.2.2.1, Z.2.2.1, e, pk_sub (by omega), if_pos (by congr 1; omega), m_iw_t (h := h) ha Z.2.2.1 (by omega) (fun i hi => (hm _ (by omega)).trans (H.2.2 i hi)) (ln a) 0 (by omega)]
theorem m_isWord_f {σ : ts_S} {z f h : Nat → Int32} {k b a : Nat} (ha : a < 13) (hk : k ≤ 120) (hb : b ≤ k) (hm : ∀ i, i < k → σ 6 5 i = h i) (Z : ZT z h k b) (H : ¬ WD h k b a) : F_X5_isWord [.inr (.inr (.inl (6, 0))), .inr (.inr (.inr a))] (mz σ z f) = some (some (.inl (nI 0)), mz σ z f) := by
  have l := ln_b a ha
  have eb := T_e_b h hb
  have tc := T_t_c h k b
  rw [e_X5_isWord ha, mz_r, Z.2.1]
  by_cases q : T_t h k b = 1
  · rw [q, if_neg (show ¬ 1 = 4 by omega), if_pos rfl, slen ha, bi_s, mz_r, mz_r, Z.2.2.2.1, Z.2.2.1, pk_sub (by omega)]
    by_cases p : T_e h k b - b = ln a
    · rw [if_pos (by rw [p]), m_iw_f ha Z.2.2.1 (by omega) (ln a) 0 (by omega) (fun y => H ⟨q, by omega, fun i hi => (hm _ (by omega)).symm.trans (y i (by omega) hi)⟩)]
    · rw [if_neg (ki_eq (by omega) (by omega) p), m_iw_0 ha]
  · by_cases q4 : T_t h k b = 4
    · rw [if_pos q4, if_neg (ki_eq (by omega) (by omega) (by omega)), m_iw_0 ha]
    · rw [if_neg q4, if_neg (ki_eq (by omega) (by omega) q), m_iw_0 ha]
