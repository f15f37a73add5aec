/-! the component's quarter: coming out, crossing, days -/
theorem qu_id (τ : Nat → Nat → Int32) (c j : Nat) : qu τ c j (τ c j) = τ := by
  unfold qu
  have e : upd (τ c) j (τ c j) = τ c := by
    funext a
    unfold upd
    split
    · next h => rw [h]
    · rfl
  rw [e, up_id]
section CD
variable {g : Nat} {ρ : Nat → Int32}
theorem c_comeOut (hg : ts_q g) {p i : Nat} (σ : ts_S) (R : RQ (σ g) ρ) (hp : p < nP ρ) (hi : i < nS ρ) : ∃ τ, F_X1_comeOut [.inr (.inr (.inl (g, 0))), .inl (nI p), .inl (nI i)] σ = some (some (.inl (S_out ρ p i).1), va_up σ g τ) ∧ RQ τ (S_out ρ p i).2 := by
  have W := R.1
  have p6 := WR_p6 W hp
  have i8 := WR_i8 W hi
  have ok := okS_k (WR_okS W hi)
  have cp : (nI p).toNatClampNeg = p := nI_clamp (by omega)
  have W1 := WR_in W hp (v := -1) (Or.inl rfl)
  have R1 : RQ (qu (σ g) 8 p (-1)) (upd ρ (px p 1) (-1)) := RQ_px R hp (f := 1) (by omega) W1
  have eS : nS (upd ρ (px p 1) (-1)) = nS ρ := nS_upd (by unfold px; omega)
  have eP : nP (upd ρ (px p 1) (-1)) = nP ρ := nP_upd (by unfold px; omega)
  have eK : nK (upd ρ (px p 1) (-1)) i = nK ρ i := nK_upd (by unfold px sx; omega)
  have o : ∀ f, f < 9 → upd ρ (px p 1) (-1) (sx i f) = ρ (sx i f) := fun f hf => upd_ne _ _ (by unfold px sx; omega)
  have R1' : RQ ((va_up σ g (qu (σ g) 8 p (-1))) g) (upd ρ (px p 1) (-1)) := by rw [up_at]; exact R1
  have eF : S_from (upd ρ (px p 1) (-1)) i = S_from ρ i := S_from_c o
  rw [e_X1_comeOut hg, ck_n _ p6 (by omega), nw_s, cp, qu_up, c_placeGiven hg _ R1' (by rw [eS]; exact hi), bi_s, eF]
  unfold S_out
  rcases S_from_or ρ i with e | ⟨j, hj, e⟩
  · rw [e, c_keptAt_m hg _ R1' (by rw [eS]; exact hi), bi_s, if_pos rfl, if_pos rfl]
    exact ⟨_, rfl, R1⟩
  · obtain ⟨w, hw, ew, ew2⟩ := S_gives_n W hi hj e
    obtain ⟨h, hh, eh⟩ := (WR_P W hp).1
    have R2 := RQ_pop R1 (i := i) (j := j) (by rw [eS]; exact hi) (by rw [eK]; exact hj)
    have r3 : S_sh (upd ρ (px p 1) (-1)) i j (nK ρ i - 1 - j) (sx i 3) = upd ρ (px p 1) (-1) (sx i 3) := S_sh_out _ (by unfold sx; omega)
    have r0 : S_sh (upd ρ (px p 1) (-1)) i j (nK ρ i - 1 - j) (px p 0) = ρ (px p 0) := by
      rw [S_sh_out _ (by unfold sx px; omega), upd_ne _ _ (by unfold px; omega)]
    have r4 : S_sh (upd ρ (px p 1) (-1)) i j (nK ρ i - 1 - j) 4 = ρ 4 := by
      rw [S_sh_out _ (by unfold sx; omega), upd_ne _ _ (by unfold px; omega)]
    have eP2 : nP (upd (S_sh (upd ρ (px p 1) (-1)) i j (nK ρ i - 1 - j)) (sx i 3) (upd ρ (px p 1) (-1) (sx i 3) - nI 1)) = nP ρ := by
      rw [nP_upd (by unfold sx; omega)]
      unfold nP
      rw [S_sh_out _ (by unfold sx; omega), upd_ne _ _ (by unfold px; omega)]
    rw [e, c_keptAt hg _ R1' (by rw [eS]; exact hi) (by rw [eK]; exact hj), bi_s, o (4 + j) (by omega), ew2, if_neg (nm (by omega)), if_neg (nm (by omega)), c_dropKept hg _ R1' (by rw [eS]; exact hi) (by rw [eK]; exact hj), bv_s, eK, up_uu, up_at, nI_clamp (show j < 2 ^ 31 by omega), ew]
    rw [eK] at R2
    generalize qu (va_up (qu (σ g) 8 p (-1)) 6 (q_sh (qu (σ g) 8 p (-1) 6) (5 * i) j (nK ρ i - 1 - j))) 5 i (qu (σ g) 8 p (-1) 5 i - nI 1) = τ2 at R2 ⊢
    have t7 : τ2 7 p = nI h := by
      have := (RQ_P R2 (p := p) (by rw [eP2]; exact hp)).1
      rw [this, upd_ne _ _ (by unfold px sx; omega), r0, eh]
    dsimp only
    unfold S_oz
    rw [r3, r0, r4, eh]
    rcases S_bit_01 (nI h) (nI w) with q | q
    · rw [c_hasWord_f hg _ _ p6 (by rw [up_at, t7]; exact q), bi_s, if_pos rfl, ck_n _ p6 (by omega), ck_n _ p6 (by omega), nw_s, qu_up, up_uu, up_at, t7, if_neg (by rw [q]; exact n01)]
      obtain ⟨k, hk, ek⟩ := has_or hh hw
      exact ⟨_, rfl, RQ_px R2 (f := 0) (by rw [eP2]; exact hp) (by omega) (WR_has R2.1 (by rw [eP2]; exact hp) ⟨k, hk, ek⟩)⟩
    · rw [c_hasWord_t hg _ _ p6 (by rw [up_at, t7]; exact q), bi_s, if_neg n10, c_loseWord hg, bv_s, ck_n _ p6 (by omega), ck_n _ p6 (by omega), nw_s, qu_up, up_uu, up_uu, up_at, up_at, if_pos q]
      have z : qu τ2 0 1 (S_mo (τ2 0 1) (nI 99999)) 7 p = nI h := by rw [qu_ne _ _ (by omega), t7]
      have z2 : qu (qu τ2 0 1 (S_mo (τ2 0 1) (nI 99999))) 7 p (nI h) = qu τ2 0 1 (S_mo (τ2 0 1) (nI 99999)) := by
        conv => lhs; rw [← z]
        exact qu_id _ _ _
      rw [z, or_same hh hw q, z2]
      have R3 := RQ_head R2 (c := 0) (j := 1) (a := 4) (WR_lost R2.1) (by omega)
      have v : τ2 0 1 = ρ 4 := by
        have := R2.2.1.2.2.2.2
        rw [this, upd_ne _ _ (by unfold sx; omega), r4]
      rw [upd_ne _ _ (show ¬ 4 = sx i 3 by unfold sx; omega), r4] at R3
      rw [v]
      exact ⟨_, rfl, R3⟩
theorem c_cz (hg : ts_q g) {p i : Nat} (σ : ts_S) (x : Int32) (R : RQ (σ g) ρ) (hp : p < nP ρ) (hi : i < nS ρ) : ∃ τ, (ts_ck (nI i) 8 <| ts_bi (F_J9_min_7cf53 [.inl ((σ g 3 ((nI i).toNatClampNeg)) + (nI 1)), .inl (nI 9999)] σ) fun x10 σ9 => ts_ck (nI i) 8 <| ts_nw (ts_up σ9 g 3 ((nI i).toNatClampNeg) x10) fun σ11 => ts_ck (nI p) 6 <| ts_bi (F_J9_min_7cf53 [.inl ((σ11 g 9 ((nI p).toNatClampNeg)) + (nI 1)), .inl (nI 9999)] σ11) fun x13 σ12 => ts_ck (nI p) 6 <| ts_nw (ts_up σ12 g 9 ((nI p).toNatClampNeg) x13) fun σ14 => some (some (.inl x), σ14)) = some (some (.inl x), va_up σ g τ) ∧ RQ τ (S_cz ρ p i) := by
  have W := R.1
  have p6 := WR_p6 W hp
  have i8 := WR_i8 W hi
  have cp : (nI p).toNatClampNeg = p := nI_clamp (by omega)
  have ci : (nI i).toNatClampNeg = i := nI_clamp (by omega)
  obtain ⟨w, hw, ew⟩ := (WR_S W hi).2.1
  obtain ⟨v, hv, ev⟩ := S_mo_n hw (by omega)
  have W1 := WR_sf W hi (f := 1) (by omega) (v := S_mo (ρ (sx i 1)) (nI 9999)) (fun h => by omega) (fun _ => ⟨v, hv, by rw [ew]; exact ev⟩) (fun h => by omega)
  have R1 := RQ_sx R (f := 1) hi (by omega) W1
  have eP : nP (upd ρ (sx i 1) (S_mo (ρ (sx i 1)) (nI 9999))) = nP ρ := nP_upd (by unfold sx; omega)
  obtain ⟨w2, hw2, ew2⟩ := (WR_P W hp).2.2
  obtain ⟨v2, hv2, ev2⟩ := S_mo_n hw2 (by omega)
  have W2 := WR_crossed W1 (p := p) (by rw [eP]; exact hp) (v := S_mo (ρ (px p 2)) (nI 9999)) ⟨v2, hv2, by rw [ew2]; exact ev2⟩
  have R2 := RQ_px R1 (f := 2) (by rw [eP]; exact hp) (by omega) W2
  rw [ck_n _ i8 (by omega), min_e, bi_s, ck_n _ i8 (by omega), nw_s, ck_n _ p6 (by omega), min_e, bi_s, ck_n _ p6 (by omega), nw_s, cp, ci, min_mo, min_mo, qu_up, qu_up, up_uu, up_at, qu_ne _ _ (by omega), (RQ_S R hi).2.1, (RQ_P R hp).2.2]
  exact ⟨_, rfl, R2⟩
theorem S_in_n (ρ : Nat → Int32) {p i : Nat} (hi : i < 8) (hk : nK ρ i ≤ 5) : nS (S_in ρ p i).2 = nS ρ ∧ nP (S_in ρ p i).2 = nP ρ := by
  unfold nS nP
  rw [S_in_np ρ hi hk (by omega), S_in_np ρ hi hk (by omega)]
  exact ⟨rfl, rfl⟩
theorem S_out_n (ρ : Nat → Int32) {p i : Nat} : nS (S_out ρ p i).2 = nS ρ ∧ nP (S_out ρ p i).2 = nP ρ := by
  unfold nS nP
  rw [S_out_np ρ (by omega), S_out_np ρ (by omega)]
  exact ⟨rfl, rfl⟩
theorem c_cross (hg : ts_q g) {p i : Nat} (σ : ts_S) (R : RQ (σ g) ρ) (hp : p < nP ρ) (hi : i < nS ρ) (h : S_may ρ p i) : ∃ τ, F_X1_makeCrossing [.inr (.inr (.inl (g, 0))), .inl (nI p), .inl (nI i)] σ = some (some (.inl (S_cr ρ p i).1), va_up σ g τ) ∧ RQ τ (S_cr ρ p i).2 := by
  have W := R.1
  have p6 := WR_p6 W hp
  have i8 := WR_i8 W hi
  have ok := okS_k (WR_okS W hi)
  have hS := W.2.1
  have hP := W.2.2.1
  rw [e_X1_makeCrossing hg, c_isPerson_t hg σ R ⟨nge (by omega), nI_lt hp (by omega)⟩, bi_s, if_neg n10, c_isSill_t hg σ R ⟨nge (by omega), nI_lt hi (by omega)⟩, bi_s, if_neg n10, c_may_t hg σ R hp hi h, bi_s, if_neg n10, ck_n _ p6 (by omega), nI_clamp (show p < 2 ^ 31 by omega), (RQ_P R hp).2.1]
  unfold S_cr
  by_cases e : ρ (px p 1) = -1
  · obtain ⟨τ, e1, R1⟩ := c_goIn hg σ R hp hi
    rw [if_pos e, if_pos e, e1, bi_s]
    have n := S_in_n ρ (p := p) i8 ok.2
    obtain ⟨τ2, e2, R2⟩ := c_cz (ρ := (S_in ρ p i).2) hg (p := p) (i := i) (va_up σ g τ) (S_in ρ p i).1 (by rw [up_at]; exact R1) (by rw [n.2]; exact hp) (by rw [n.1]; exact hi)
    refine ⟨τ2, ?_, R2⟩
    rw [up_uu] at e2
    rw [← e2, nI_clamp (show p < 2 ^ 31 by omega)]
  · obtain ⟨τ, e1, R1⟩ := c_comeOut hg σ R hp hi
    rw [if_neg e, if_neg e, e1, bi_s]
    have n := S_out_n ρ (p := p) (i := i)
    obtain ⟨τ2, e2, R2⟩ := c_cz (ρ := (S_out ρ p i).2) hg (p := p) (i := i) (va_up σ g τ) (S_out ρ p i).1 (by rw [up_at]; exact R1) (by rw [n.2]; exact hp) (by rw [n.1]; exact hi)
    refine ⟨τ2, ?_, R2⟩
    rw [up_uu] at e2
    rw [← e2, nI_clamp (show p < 2 ^ 31 by omega)]
theorem c_nocross (hg : ts_q g) {p i : Nat} (σ : ts_S) (R : RQ (σ g) ρ) (p6 : p < 6) (i8 : i < 8) (h : ¬ (p < nP ρ ∧ i < nS ρ ∧ S_may ρ p i)) : F_X1_makeCrossing [.inr (.inr (.inl (g, 0))), .inl (nI p), .inl (nI i)] σ = some (some (.inl (-1)), σ) := by
  have W := R.1
  have hS := W.2.1
  have hP := W.2.2.1
  rw [e_X1_makeCrossing hg]
  by_cases h1 : p < nP ρ
  · rw [c_isPerson_t hg σ R ⟨nge (by omega), nI_lt h1 (by omega)⟩, bi_s, if_neg n10]
    by_cases h2 : i < nS ρ
    · rw [c_isSill_t hg σ R ⟨nge (by omega), nI_lt h2 (by omega)⟩, bi_s, if_neg n10, c_may_f hg σ R h1 h2 (fun q => h ⟨h1, h2, q⟩), bi_s, if_pos rfl]
    · rw [c_isSill_f hg σ R (fun q => h2 ((nI_ltI (by omega) (by omega)).mp q.2)), bi_s, if_pos rfl]
  · rw [c_isPerson_f hg σ R (fun q => h1 ((nI_ltI (by omega) (by omega)).mp q.2)), bi_s, if_pos rfl]
theorem nI_xor {a b : Nat} (ha : a < 2 ^ 31) (hb : b < 2 ^ 31) : nI a ^^^ nI b = nI (a ^^^ b) := by
  have := Nat.xor_lt_two_pow ha hb
  apply Int32.toBitVec_inj.mp
  apply BitVec.eq_of_toNat_eq
  show ((nI a).toBitVec ^^^ (nI b).toBitVec).toNat = _
  rw [BitVec.toNat_xor, pk_tn (by omega), pk_tn (by omega), pk_tn (by omega)]
theorem floorMod_n {a b : Nat} (σ : ts_S) (ha : a < 2 ^ 31) (hb : b < 2 ^ 31) (h0 : 0 < b) : F_J9_floorMod_7cf53 [.inl (nI a), .inl (nI b)] σ = some (some (.inl (nI (a % b))), σ) := by
  have := Nat.xor_lt_two_pow ha hb
  rw [e_J9_floorMod_7cf53, if_neg (ki_eq hb (by omega) (by omega)), ni_s, nI_xor ha hb, if_pos (nge this), pk_rem ha h0 hb]
theorem c_today (hg : ts_q g) (σ : ts_S) (R : RQ (σ g) ρ) : F_X1_placeOfToday [.inr (.inr (.inl (g, 0)))] σ = some (some (.inl (nI (dD ρ % 6))), σ) := by
  have h := WR_d R.1
  rw [e_X1_placeOfToday hg, R.2.1.1, h.1, floorMod_n σ (by omega) (by omega) (by omega), bi_s]
/-- one day, at the loop's head -/
theorem c_day (hg : ts_q g) {n j : Nat} (hn : n < 2 ^ 31) (hj : j < n) (σ : ts_S) (R : RQ (σ g) ρ) : ∃ τ, H_X1_passDays_2 g (nI n) (nI j) σ = H_X1_passDays_2 g (nI n) (nI (j + 1)) (va_up σ g τ) ∧ RQ τ (S_day ρ) := by
  have W := R.1
  obtain ⟨p, s, hp, hs, e, e1, e2, e3⟩ := WR_c W
  have d1 : nI (10 * p + s) / nI 10 = nI p := by rw [pk_div (by omega) (by omega) (by omega)]; congr 1; omega
  have d2 : nI (10 * p + s) - nI (10 * p + s) / nI 10 * nI 10 = nI s := by rw [pk_rem (by omega) (by omega) (by omega)]; congr 1; omega
  have hlt : dD ρ % 6 < 6 := by omega
  rw [h_X1_passDays_2 hg, if_neg (nI_ge hj hn), c_today hg σ R, bi_s, ck_n _ hlt (by omega), ni_s, nI_clamp (by omega), R.2.2.1 _ hlt, e, d2, d1]
  have W1 := WR_d1 W
  have Wd := WR_day W
  by_cases h : p < nP ρ ∧ s < nS ρ ∧ S_may ρ p s
  · obtain ⟨τ, t1, R1⟩ := c_cross hg σ R h.1 h.2.1 h.2.2
    have ed : S_d1 ρ = (S_cr ρ p s).2 := by unfold S_d1; rw [e2, e3, if_pos h]
    rw [← ed] at R1
    rw [t1, bi_s, min_e, bi_s, nw_s, qu_up, up_uu, up_at, min_mo, R1.2.1.1, nI_add]
    exact ⟨_, rfl, RQ_head R1 (c := 0) (j := 2) (a := 0) Wd (by omega)⟩
  · have ed : S_d1 ρ = ρ := by unfold S_d1; rw [e2, e3, if_neg h]
    have R1 := R
    rw [← ed] at R1
    rw [c_nocross hg σ R hp hs h, bi_s, min_e, bi_s, nw_s, qu_up, min_mo, R1.2.1.1, nI_add]
    exact ⟨_, rfl, RQ_head R1 (c := 0) (j := 2) (a := 0) Wd (by omega)⟩
theorem c_days_loop (hg : ts_q g) {n : Nat} (hn : n < 2 ^ 31) : ∀ (t j : Nat) (σ : ts_S), RQ (σ g) (S_days ρ j) → j + t = n → ∃ τ, H_X1_passDays_2 g (nI n) (nI j) σ = some (none, va_up σ g τ) ∧ RQ τ (S_days ρ n)
  | 0, j, σ, R, e => by
    have : j = n := by omega
    subst this
    rw [h_X1_passDays_2 hg, if_pos (nI_le (Nat.le_refl _) hn)]
    exact ⟨σ g, by rw [up_id], R⟩
  | t + 1, j, σ, R, e => by
    obtain ⟨τ, h1, R1⟩ := c_day hg hn (show j < n by omega) σ R
    obtain ⟨τ2, h2, R2⟩ := c_days_loop hg hn t (j + 1) (va_up σ g τ) (by rw [up_at]; exact R1) (by omega)
    rw [h1, h2, up_uu]
    exact ⟨τ2, rfl, R2⟩
theorem c_passDays (hg : ts_q g) {n : Nat} (σ : ts_S) (hn : n < 2 ^ 31) (R : RQ (σ g) ρ) : ∃ τ, F_X1_passDays [.inr (.inr (.inl (g, 0))), .inl (nI n)] σ = some (none, va_up σ g τ) ∧ RQ τ (S_days ρ n) := by
  rw [e_X1_passDays hg]
  exact c_days_loop hg hn n 0 σ R (by omega)
end CD
