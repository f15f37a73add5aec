/-! the component's quarter crosses as the row does -/
theorem S_ks_c {f f' : Nat → Int32} : ∀ {m : Nat}, (∀ k, k < m → f' k = f k) → S_ks f' m = S_ks f m
  | 0, _ => rfl
  | m + 1, h => by rw [S_ks, S_ks, S_ks_c (fun k hk => h k (by omega)), h m (by omega)]
theorem S_set_c {ρ ρ' : Nat → Int32} {i : Nat} (hk : nK ρ i ≤ 5) (h : ∀ f, f < 9 → ρ' (sx i f) = ρ (sx i f)) : S_set ρ' i = S_set ρ i := by
  unfold S_set
  have ek : nK ρ' i = nK ρ i := by unfold nK; rw [h 3 (by omega)]
  rw [ek]
  exact S_ks_c (fun k q => h _ (by omega))
theorem S_from_c {ρ ρ' : Nat → Int32} {i : Nat} (h : ∀ f, f < 9 → ρ' (sx i f) = ρ (sx i f)) : S_from ρ' i = S_from ρ i := by
  unfold S_from
  have ek : nK ρ' i = nK ρ i := by unfold nK; rw [h 3 (by omega)]
  rw [ek, h 0 (by omega), h 1 (by omega)]
section CC
variable {g : Nat} {ρ : Nat → Int32}
theorem RQ_S {τ : Nat → Nat → Int32} (R : RQ τ ρ) {i : Nat} (hi : i < nS ρ) : rS τ ρ i := R.2.2.2.2.1 i hi
theorem RQ_P {τ : Nat → Nat → Int32} (R : RQ τ ρ) {p : Nat} (hp : p < nP ρ) : rP τ ρ p := R.2.2.2.2.2 p hp
theorem c_isSill_t (hg : ts_q g) {a : Int32} (σ : ts_S) (R : RQ (σ g) ρ) (h : nI 0 ≤ a ∧ a < nI (nS ρ)) : F_X1_isSill [.inr (.inr (.inl (g, 0))), .inl a] σ = some (some (.inl (nI 1)), σ) := by
  rw [e_X1_isSill hg, R.2.1.2.1, R.1.2.1.1, below_t σ h, bi_s, if_pos (Or.inr rfl)]
theorem c_isSill_f (hg : ts_q g) {a : Int32} (σ : ts_S) (R : RQ (σ g) ρ) (h : ¬ (nI 0 ≤ a ∧ a < nI (nS ρ))) : F_X1_isSill [.inr (.inr (.inl (g, 0))), .inl a] σ = some (some (.inl (nI 0)), σ) := by
  rw [e_X1_isSill hg, R.2.1.2.1, R.1.2.1.1, below_f σ h, bi_s, if_pos (Or.inl rfl)]
theorem c_isPerson_t (hg : ts_q g) {a : Int32} (σ : ts_S) (R : RQ (σ g) ρ) (h : nI 0 ≤ a ∧ a < nI (nP ρ)) : F_X1_isPerson [.inr (.inr (.inl (g, 0))), .inl a] σ = some (some (.inl (nI 1)), σ) := by
  rw [e_X1_isPerson hg, R.2.1.2.2.2.1, R.1.2.2.1.1, below_t σ h, bi_s, if_pos (Or.inr rfl)]
theorem c_isPerson_f (hg : ts_q g) {a : Int32} (σ : ts_S) (R : RQ (σ g) ρ) (h : ¬ (nI 0 ≤ a ∧ a < nI (nP ρ))) : F_X1_isPerson [.inr (.inr (.inl (g, 0))), .inl a] σ = some (some (.inl (nI 0)), σ) := by
  rw [e_X1_isPerson hg, R.2.1.2.2.2.1, R.1.2.2.1.1, below_f σ h, bi_s, if_pos (Or.inl rfl)]
theorem c_may_t (hg : ts_q g) {p i : Nat} (σ : ts_S) (R : RQ (σ g) ρ) (hp : p < nP ρ) (hi : i < nS ρ) (h : S_may ρ p i) : F_X1_mayCross [.inr (.inr (.inl (g, 0))), .inl (nI p), .inl (nI i)] σ = some (some (.inl (nI 1)), σ) := by
  have p6 := WR_p6 R.1 hp
  have i8 := WR_i8 R.1 hi
  rw [e_X1_mayCross hg, ck_n _ i8 (by omega), nI_clamp (by omega), (RQ_S R hi).2.2.1, if_pos h.1, ck_n _ p6 (by omega), nI_clamp (by omega), (RQ_P R hp).2.1, ck_n _ p6 (by omega)]
  rcases h.2 with e | e
  · rw [if_pos e]
  · rw [if_pos e]
    split <;> rfl
theorem c_may_f (hg : ts_q g) {p i : Nat} (σ : ts_S) (R : RQ (σ g) ρ) (hp : p < nP ρ) (hi : i < nS ρ) (h : ¬ S_may ρ p i) : F_X1_mayCross [.inr (.inr (.inl (g, 0))), .inl (nI p), .inl (nI i)] σ = some (some (.inl (nI 0)), σ) := by
  have p6 := WR_p6 R.1 hp
  have i8 := WR_i8 R.1 hi
  rw [e_X1_mayCross hg, ck_n _ i8 (by omega), nI_clamp (by omega), (RQ_S R hi).2.2.1]
  by_cases h1 : ρ (sx i 2) = nI 0
  · rw [if_pos h1, ck_n _ p6 (by omega), nI_clamp (by omega), (RQ_P R hp).2.1, ck_n _ p6 (by omega)]
    by_cases q : ρ (px p 1) = -1
    · exact absurd ⟨h1, Or.inl q⟩ h
    · by_cases q2 : ρ (px p 1) = nI i
      · exact absurd ⟨h1, Or.inr q2⟩ h
      · rw [if_neg q, if_neg q2]
  · rw [if_neg h1]
theorem c_ks_loop (hg : ts_q g) {i : Nat} (σ : ts_S) (R : RQ (σ g) ρ) (hi : i < nS ρ) : ∀ n j, j + n = nK ρ i → H_X1_keptSet_4 g (nI i) (S_ks (fun k => ρ (sx i (4 + k))) j) (nI j) σ = some (some (.inl (S_set ρ i)), σ)
  | 0, j, e => by
    have i8 := WR_i8 R.1 hi
    have ok := okS_k (WR_okS R.1 hi)
    rw [h_X1_keptSet_4 hg, ck_n _ i8 (by omega), nI_clamp (by omega), (RQ_S R hi).2.2.2.1, ok.1, if_pos (nI_le (by omega) (by omega)), S_set, ← e]; rfl
  | n + 1, j, e => by
    have i8 := WR_i8 R.1 hi
    have ok := okS_k (WR_okS R.1 hi)
    rw [h_X1_keptSet_4 hg, ck_n _ i8 (by omega), nI_clamp (by omega), (RQ_S R hi).2.2.2.1, ok.1, if_neg (nI_ge (by omega) (by omega)), pk_mul, nI_add, ck_n _ (by omega) (by omega), ni_s, nI_clamp (by omega), Nat.mul_comm i 5, (RQ_S R hi).2.2.2.2 j (by omega), nI_add]
    exact c_ks_loop hg σ R hi n (j + 1) (by omega)
theorem c_keptSet (hg : ts_q g) {i : Nat} (σ : ts_S) (R : RQ (σ g) ρ) (hi : i < nS ρ) : F_X1_keptSet [.inr (.inr (.inl (g, 0))), .inl (nI i)] σ = some (some (.inl (S_set ρ i)), σ) := by
  rw [e_X1_keptSet hg]
  exact c_ks_loop hg σ R hi (nK ρ i) 0 (by omega)
theorem c_pg0 (k w : Int32) {m : Nat} (hm : m < 2 ^ 31) (σ : ts_S) : F_X0_placeGiven [.inl k, .inl (nI m), .inl w] σ = some (some (.inl (S_gf k w m)), σ) := by
  rw [e_X0_placeGiven]
  unfold S_gf
  by_cases h : m = 0
  · subst h
    rw [if_neg (by decide), if_pos rfl]
  · obtain ⟨n, rfl⟩ : ∃ n, m = n + 1 := ⟨m - 1, by omega⟩
    rw [if_pos (nI_lt (by omega) hm), if_neg (show ¬ n + 1 = 0 by omega), nI_m1', Nat.add_sub_cancel]
    repeat' split
    all_goals rfl
theorem c_placeGiven (hg : ts_q g) {i : Nat} (σ : ts_S) (R : RQ (σ g) ρ) (hi : i < nS ρ) : F_X1_placeGiven [.inr (.inr (.inl (g, 0))), .inl (nI i)] σ = some (some (.inl (S_from ρ i)), σ) := by
  have i8 := WR_i8 R.1 hi
  have ok := okS_k (WR_okS R.1 hi)
  rw [e_X1_placeGiven hg, ck_n _ i8 (by omega), ck_n _ i8 (by omega), ck_n _ i8 (by omega), nI_clamp (by omega), (RQ_S R hi).1, (RQ_S R hi).2.1, (RQ_S R hi).2.2.2.1, ok.1, c_pg0 _ _ (by omega), bi_s]; rfl
theorem c_keptAt (hg : ts_q g) {i k : Nat} (σ : ts_S) (R : RQ (σ g) ρ) (hi : i < nS ρ) (hk : k < nK ρ i) : F_X1_keptAt [.inr (.inr (.inl (g, 0))), .inl (nI i), .inl (nI k)] σ = some (some (.inl (ρ (sx i (4 + k)))), σ) := by
  have i8 := WR_i8 R.1 hi
  have ok := okS_k (WR_okS R.1 hi)
  have s8 := R.1.2.1.2
  rw [e_X1_keptAt hg, R.2.1.2.1, R.1.2.1.1, below_n σ hi (by omega), bi_s, if_neg n10, ck_n _ i8 (by omega), nI_clamp (by omega), (RQ_S R hi).2.2.2.1, ok.1, below_n σ hk (by omega), bi_s, if_neg n10, pk_mul, nI_add, ck_n _ (by omega) (by omega), nI_clamp (by omega), Nat.mul_comm i 5, (RQ_S R hi).2.2.2.2 k hk]
theorem c_keptAt_m (hg : ts_q g) {i : Nat} (σ : ts_S) (R : RQ (σ g) ρ) (hi : i < nS ρ) : F_X1_keptAt [.inr (.inr (.inl (g, 0))), .inl (nI i), .inl (-1)] σ = some (some (.inl (-1)), σ) := by
  have i8 := WR_i8 R.1 hi
  have s8 := R.1.2.1.2
  rw [e_X1_keptAt hg, R.2.1.2.1, R.1.2.1.1, below_n σ hi (by omega), bi_s, if_neg n10, ck_n _ i8 (by omega), below_m, bi_s, if_pos rfl]
theorem c_keep (hg : ts_q g) {i : Nat} (w : Int32) (σ : ts_S) (R : RQ (σ g) ρ) (hi : i < nS ρ) (hm : nK ρ i < 5) : F_X1_keep [.inr (.inr (.inl (g, 0))), .inl (nI i), .inl w] σ = some (some (.inl (nI 1)), va_up σ g (qu (qu (σ g) 6 (5 * i + nK ρ i) w) 5 i (σ g 5 i + nI 1))) := by
  have i8 := WR_i8 R.1 hi
  have ok := okS_k (WR_okS R.1 hi)
  have e5 : σ g 5 i = nI (nK ρ i) := by rw [(RQ_S R hi).2.2.2.1, ok.1]
  rw [e_X1_keep hg, ck_n _ i8 (by omega), nI_clamp (show i < 2 ^ 31 by omega), e5, if_pos (nI_lt hm (by omega)), ck_n _ i8 (by omega), pk_mul, nI_add, ck_n _ (by omega) (by omega), nw_s, ck_n _ i8 (by omega), ck_n _ i8 (by omega), nw_s, nI_clamp (by omega), qu_up, qu_up, up_uu, up_at, Nat.mul_comm i 5, qu_ne _ _ (by omega), e5]
theorem min_mo (v h : Int32) : (if h < v + nI 1 then h else v + nI 1) = S_mo v h := by
  unfold S_mo
  by_cases q : v + nI 1 < h
  · rw [if_pos q, if_neg (fun z => Int32.lt_irrefl (Int32.lt_trans q z))]
  · rw [if_neg q]
    by_cases z : h < v + nI 1
    · rw [if_pos z]
    · rw [if_neg z]
      exact Int32.le_antisymm (Int32.not_lt.mp z) (Int32.not_lt.mp q)
theorem c_loseWord (hg : ts_q g) (σ : ts_S) : F_X1_loseWord [.inr (.inr (.inl (g, 0)))] σ = some (none, va_up σ g (qu (σ g) 0 1 (S_mo (σ g 0 1) (nI 99999)))) := by
  rw [e_X1_loseWord hg, min_e, bi_s, nw_s, qu_up, min_mo]
theorem c_mostHeld (k : Int32) (σ : ts_S) : F_X0_mostHeld [.inl k] σ = some (some (.inl (S_hd k)), σ) := by
  rw [e_X0_mostHeld]
  unfold S_hd
  repeat' split
  all_goals rfl
theorem c_goIn (hg : ts_q g) {p i : Nat} (σ : ts_S) (R : RQ (σ g) ρ) (hp : p < nP ρ) (hi : i < nS ρ) : ∃ τ, F_X1_goIn [.inr (.inr (.inl (g, 0))), .inl (nI p), .inl (nI i)] σ = some (some (.inl (S_in ρ p i).1), va_up σ g τ) ∧ RQ τ (S_in ρ p i).2 := by
  have W := R.1
  have p6 := WR_p6 W hp
  have i8 := WR_i8 W hi
  have ok := okS_k (WR_okS W hi)
  have cp : (nI p).toNatClampNeg = p := nI_clamp (by omega)
  have ci : (nI i).toNatClampNeg = i := nI_clamp (by omega)
  have W1 := WR_in W hp (v := nI i) (Or.inr ⟨i, hi, rfl⟩)
  have R1 : RQ (qu (σ g) 8 p (nI i)) (upd ρ (px p 1) (nI i)) := RQ_px R hp (f := 1) (by omega) W1
  have eS : nS (upd ρ (px p 1) (nI i)) = nS ρ := nS_upd (by unfold px; omega)
  have eP : nP (upd ρ (px p 1) (nI i)) = nP ρ := nP_upd (by unfold px; omega)
  have R1' : RQ ((va_up σ g (qu (σ g) 8 p (nI i))) g) (upd ρ (px p 1) (nI i)) := by rw [up_at]; exact R1
  have eT : S_set (upd ρ (px p 1) (nI i)) i = S_set ρ i := S_set_c ok.2 (fun f hf => upd_ne _ _ (by unfold px sx; omega))
  have t2 : qu (σ g) 8 p (nI i) 2 i = ρ (sx i 0) := by rw [qu_ne _ _ (by omega)]; exact (RQ_S R hi).1
  have t7 : qu (σ g) 8 p (nI i) 7 p = ρ (px p 0) := by rw [qu_ne _ _ (by omega)]; exact (RQ_P R hp).1
  rw [e_X1_goIn hg, ck_n _ p6 (by omega), nw_s, cp, ci, qu_up, ck_n _ i8 (by omega), ck_n _ p6 (by omega), c_keptSet hg _ R1' (by rw [eS]; exact hi), bi_s, up_at, t2, t7, eT, c_wordTaken, bi_s]
  unfold S_in
  rcases S_tk_or (ρ (sx i 0)) (ρ (px p 0)) (S_set ρ i) with e | ⟨w, hw, e⟩
  · have e' : S_takes ρ i (ρ (px p 0)) = -1 := e
    rw [e, e', if_pos rfl, if_pos rfl]
    exact ⟨_, rfl, R1⟩
  · have e' : S_takes ρ i (ρ (px p 0)) = nI w := e
    obtain ⟨h, hh, eh⟩ := (WR_P W hp).1
    obtain ⟨k, hk, ek⟩ := has_and hh hw
    have W2 := WR_has W1 (p := p) (by rw [eP]; exact hp) (v := ρ (px p 0) &&& ((nI 1 <<< (nI w &&& nI 31)) ^^^ (-1))) ⟨k, hk, by rw [eh]; exact ek⟩
    have R2 := RQ_px R1 (p := p) (f := 0) (by rw [eP]; exact hp) (by omega) W2
    have eS2 : nS (upd (upd ρ (px p 1) (nI i)) (px p 0) (ρ (px p 0) &&& ((nI 1 <<< (nI w &&& nI 31)) ^^^ (-1)))) = nS ρ := by rw [nS_upd (by unfold px; omega), eS]
    have eK2 : nK (upd (upd ρ (px p 1) (nI i)) (px p 0) (ρ (px p 0) &&& ((nI 1 <<< (nI w &&& nI 31)) ^^^ (-1)))) i = nK ρ i := by rw [nK_upd (by unfold px sx; omega), nK_upd (by unfold px sx; omega)]
    have u2 : qu (qu (σ g) 8 p (nI i)) 7 p (ρ (px p 0) &&& ((nI 1 <<< (nI w &&& nI 31)) ^^^ (-1))) 2 i = ρ (sx i 0) := by rw [qu_ne _ _ (by omega)]; exact t2
    have u5 : qu (qu (σ g) 8 p (nI i)) 7 p (ρ (px p 0) &&& ((nI 1 <<< (nI w &&& nI 31)) ^^^ (-1))) 5 i = ρ (sx i 3) := by rw [qu_ne _ _ (by omega), qu_ne _ _ (by omega)]; exact (RQ_S R hi).2.2.2.1
    rw [e, e', if_neg (nm (by omega)), if_neg (nm (by omega)), ck_n _ p6 (by omega), ck_n _ p6 (by omega), nw_s, qu_up, up_uu, up_at, up_at, t7, ck_n _ i8 (by omega), ck_n _ i8 (by omega), u2, c_mostHeld, bi_s, u5]
    dsimp only
    by_cases q : S_hd (ρ (sx i 0)) ≤ ρ (sx i 3)
    · rw [if_pos q, if_pos q, if_pos rfl, c_loseWord hg, bv_s, up_uu, up_at]
      have W3 := WR_lost W2
      have R3 := RQ_head R2 (c := 0) (j := 1) (a := 4) W3 (by omega)
      have v1 : qu (qu (σ g) 8 p (nI i)) 7 p (ρ (px p 0) &&& ((nI 1 <<< (nI w &&& nI 31)) ^^^ (-1))) 0 1 = ρ 4 := by rw [qu_ne _ _ (by omega), qu_ne _ _ (by omega)]; exact R.2.1.2.2.2.2
      rw [v1]
      rw [upd_ne _ _ (show ¬ 4 = px p 0 by unfold px; omega), upd_ne _ _ (show ¬ 4 = px p 1 by unfold px; omega)] at R3
      exact ⟨_, rfl, R3⟩
    · have hm5 : nK ρ i < 5 := by
        obtain ⟨hh, hh1, hh2⟩ := S_hd_le (ρ (sx i 0))
        rw [hh2, ok.1] at q
        have q := (nI_ltI (by omega) (by omega)).mp (Int32.not_le.mp q)
        omega
      have R2' : RQ ((va_up σ g (qu (qu (σ g) 8 p (nI i)) 7 p (ρ (px p 0) &&& ((nI 1 <<< (nI w &&& nI 31)) ^^^ (-1))))) g) (upd (upd ρ (px p 1) (nI i)) (px p 0) (ρ (px p 0) &&& ((nI 1 <<< (nI w &&& nI 31)) ^^^ (-1)))) := by rw [up_at]; exact R2
      rw [if_neg q, if_neg q, if_neg n10, c_keep hg _ _ R2' (by rw [eS2]; exact hi) (by rw [eK2]; exact hm5), bi_s, if_neg n10, up_uu, up_at]
      exact ⟨_, rfl, RQ_lay R2 (by rw [eS2]; exact hi) (by rw [eK2]; exact hm5) hw⟩
theorem c_drop_loop (hg : ts_q g) {i j : Nat} (i8 : i < 8) {m : Nat} (hm : m < 5) : ∀ (n t : Nat) (σ : ts_S) (τ : Nat → Nat → Int32), τ 5 i = nI (m + 1) → j + t + n = m → σ g = va_up τ 6 (q_sh (τ 6) (5 * i) j t) → H_X1_dropKept_7 g (nI i) (nI j) (nI (i * 5)) (nI (j + t)) σ = some (none, va_up σ g (qu (va_up τ 6 (q_sh (τ 6) (5 * i) j (m - j))) 5 i (τ 5 i - nI 1)))
  | 0, t, σ, τ, h5, e, hσ => by
    have et : m - j = t := by omega
    have z : σ g 5 i = τ 5 i := by rw [hσ, up_ne _ _ (by omega)]
    rw [h_X1_dropKept_7 hg, ck_n _ i8 (by omega), nI_clamp (show i < 2 ^ 31 by omega), z, h5, nI_m1', if_pos (nI_le (by omega) (by omega)), ck_n _ i8 (by omega), ck_n _ i8 (by omega), nw_s, qu_up, hσ, et]
  | n + 1, t, σ, τ, h5, e, hσ => by
    have z : σ g 5 i = τ 5 i := by rw [hσ, up_ne _ _ (by omega)]
    have z6 : σ g 6 = q_sh (τ 6) (5 * i) j t := by rw [hσ, up_at]
    have zq : q_sh (τ 6) (5 * i) j t (5 * i + (j + t) + 1) = τ 6 (5 * i + (j + t) + 1) := q_sh_out _ (by omega)
    rw [h_X1_dropKept_7 hg, ck_n _ i8 (by omega), nI_clamp (show i < 2 ^ 31 by omega), z, h5, nI_m1', if_neg (nI_ge (by omega) (by omega)), nI_add, nI_add, ck_n _ (by omega) (by omega), ck_n _ (by omega) (by omega), nw_s, nI_clamp (by omega), nI_clamp (by omega), qu_up, nI_add, Nat.mul_comm i 5, z6, zq]
    have hs : (va_up σ g (qu (σ g) 6 (5 * i + (j + t)) (τ 6 (5 * i + (j + t) + 1)))) g = va_up τ 6 (q_sh (τ 6) (5 * i) j (t + 1)) := by
      rw [up_at]
      unfold qu
      rw [z6, q_sh_s, hσ, up_uu]
    have := c_drop_loop hg i8 hm n (t + 1) _ τ h5 (by omega) hs
    rw [Nat.mul_comm i 5, ← Nat.add_assoc] at this
    rw [this, up_uu, h5, nI_m1']
theorem c_dropKept (hg : ts_q g) {i j : Nat} (σ : ts_S) (R : RQ (σ g) ρ) (hi : i < nS ρ) (hj : j < nK ρ i) : F_X1_dropKept [.inr (.inr (.inl (g, 0))), .inl (nI i), .inl (nI j)] σ = some (none, va_up σ g (qu (va_up (σ g) 6 (q_sh (σ g 6) (5 * i) j (nK ρ i - 1 - j))) 5 i (σ g 5 i - nI 1))) := by
  have i8 := WR_i8 R.1 hi
  have ok := okS_k (WR_okS R.1 hi)
  obtain ⟨m, hm⟩ : ∃ m, nK ρ i = m + 1 := ⟨nK ρ i - 1, by omega⟩
  have e5 : σ g 5 i = nI (m + 1) := by rw [(RQ_S R hi).2.2.2.1, ok.1, hm]
  rw [e_X1_dropKept hg, pk_mul, ni_s, hm]
  exact c_drop_loop hg i8 (by omega) (m - j) 0 σ (σ g) e5 (by omega) (by rw [q_sh_0, up_id])
theorem S_bit_n {h w : Nat} (hh : h < 2 ^ 31) (hw : w < 12) : S_bit (nI h) (nI w) = nI (h / 2 ^ w % 2) := by
  have e : ∀ w, w < 12 → ((nI w &&& nI 31).toBitVec.smod 32).toNat = w := by decide +kernel
  unfold S_bit
  rw [pk_shrN hh _ w (e w hw), pk_andN (k := 1) (by have : h / 2 ^ w ≤ h := Nat.div_le_self _ _; omega) (by decide)]
theorem or_same {h w : Nat} (hh : h < 4096) (hw : w < 12) (q : S_bit (nI h) (nI w) = nI 1) : nI h ||| (nI 1 <<< (nI w &&& nI 31)) = nI h := by
  rw [S_bit_n (by omega) hw] at q
  have q := (nI_eq (by omega) (by omega)).mp q
  have q2 : 2 ^ w < 2 ^ 12 := Nat.pow_lt_pow_right (by omega) hw
  have z : h ||| 2 ^ w = h := by
    apply Nat.eq_of_testBit_eq
    intro i
    rw [Nat.testBit_or, Nat.testBit_two_pow]
    by_cases e : w = i
    · subst e
      have : h.testBit w = true := by rw [Nat.testBit_eq_decide_div_mod_eq]; simpa using q
      simp [this]
    · simp [e]
  rw [sh_bit hw]
  apply Int32.toBitVec_inj.mp
  apply BitVec.eq_of_toNat_eq
  show ((nI h).toBitVec ||| (nI (2 ^ w)).toBitVec).toNat = _
  rw [BitVec.toNat_or, pk_tn (by omega), pk_tn (by omega), z]
theorem c_hasWord_t (hg : ts_q g) {p : Nat} (w : Int32) (σ : ts_S) (p6 : p < 6) (h : S_bit (σ g 7 p) w = nI 1) : F_X1_hasWord [.inr (.inr (.inl (g, 0))), .inl (nI p), .inl w] σ = some (some (.inl (nI 1)), σ) := by
  have hb : ∀ x y : Int32, ((x >>> (y &&& nI 31)) &&& nI 1) = S_bit x y := fun _ _ => rfl
  rw [e_X1_hasWord hg, ck_n _ p6 (by omega), nI_clamp (by omega), hb, h, if_neg n10]
theorem c_hasWord_f (hg : ts_q g) {p : Nat} (w : Int32) (σ : ts_S) (p6 : p < 6) (h : S_bit (σ g 7 p) w = nI 0) : F_X1_hasWord [.inr (.inr (.inl (g, 0))), .inl (nI p), .inl w] σ = some (some (.inl (nI 0)), σ) := by
  have hb : ∀ x y : Int32, ((x >>> (y &&& nI 31)) &&& nI 1) = S_bit x y := fun _ _ => rfl
  rw [e_X1_hasWord hg, ck_n _ p6 (by omega), nI_clamp (by omega), hb, h, if_pos rfl]
end CC
