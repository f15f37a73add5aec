/-! the model: one crosses; days -/
theorem upd_at (ρ : Nat → Int32) (a : Nat) (v : Int32) : upd ρ a v a = v := if_pos rfl
theorem upd_ne (ρ : Nat → Int32) {a b : Nat} (v : Int32) (h : ¬ b = a) : upd ρ a v b = ρ b := if_neg h
def S_mo (v h : Int32) : Int32 := if v + nI 1 < h then v + nI 1 else h
theorem m_more {a : Nat} (h : Int32) (σ : ts_S) (ha : a < 111) : F_X5_more [.inr (.inr (.inl (6, 0))), .inl (nI a), .inl (nI 1), .inl h] σ = some (none, mr σ (upd (σ 6 1) a (S_mo (σ 6 1 a) h))) := by
  rw [e_X5_more, ck_n _ ha (by omega), min_e, bi_s, ck_n _ ha (by omega), nw_s, nI_clamp (by omega), mr_up]; rfl
def S_lay (ρ : Nat → Int32) (i : Nat) (w : Int32) : Nat → Int32 := upd (upd ρ (sx i (4 + nK ρ i)) w) (sx i 3) (ρ (sx i 3) + nI 1)
theorem m_lays {i : Nat} (w : Int32) (σ : ts_S) (h : okS (σ 6 1) i) (hm : nK (σ 6 1) i < 5) : F_X5_lays [.inr (.inr (.inl (6, 0))), .inl (nI i), .inl w] σ = some (some (.inl (σ 6 1 (sx i 3) + nI 1)), mr σ (S_lay (σ 6 1) i w)) := by
  obtain ⟨h1, h2⟩ := okS_k h
  have hi := h.1
  have q1 : sx i (4 + nK (σ 6 1) i) < 111 := by unfold sx; omega
  have q2 : sx i 3 < 111 := by unfold sx; omega
  have q3 : ¬ sx i 3 = sx i (4 + nK (σ 6 1) i) := by unfold sx; omega
  rw [e_X5_lays, m_sillIs σ h.1 (by omega), bi_s]
  conv => lhs; rw [h1]
  rw [nI_add, m_sillAt, bi_s, ck_n _ q1 (by omega), nw_s, nI_clamp (by omega), mr_up, m_sillAt, bi_s, ck_n _ q2 (by omega), ck_n _ q2 (by omega), nw_s, nI_clamp (by omega), mr_up, mr_rd, mr_mr, m_sillIs _ h.1 (by omega), bi_s, mr_rd, upd_at, upd_ne _ _ q3]; rfl
abbrev S_may (ρ : Nat → Int32) (p i : Nat) : Prop := ρ (sx i 2) = nI 0 ∧ (ρ (px p 1) = -1 ∨ ρ (px p 1) = nI i)
theorem m_may_t {p i : Nat} (σ : ts_S) (hp : p < 6) (hi : i < 8) (h : S_may (σ 6 1) p i) : F_X5_mayCross [.inr (.inr (.inl (6, 0))), .inl (nI p), .inl (nI i)] σ = some (some (.inl (nI 1)), σ) := by
  rw [e_X5_mayCross, m_personIs σ hp (by omega), bi_s, m_sillIs σ hi (by omega), bi_s, if_pos h.1]
  rcases h.2 with e | e
  · rw [if_pos e]
  · by_cases q : σ 6 1 (px p 1) = -1
    · rw [if_pos q]
    · rw [if_neg q, if_pos e]
theorem m_may_f {p i : Nat} (σ : ts_S) (hp : p < 6) (hi : i < 8) (h : ¬ S_may (σ 6 1) p i) : F_X5_mayCross [.inr (.inr (.inl (6, 0))), .inl (nI p), .inl (nI i)] σ = some (some (.inl (nI 0)), σ) := by
  rw [e_X5_mayCross, m_personIs σ hp (by omega), bi_s, m_sillIs σ hi (by omega), bi_s]
  by_cases h1 : σ 6 1 (sx i 2) = nI 0
  · rw [if_pos h1]
    by_cases q : σ 6 1 (px p 1) = -1
    · exact absurd ⟨h1, Or.inl q⟩ h
    · rw [if_neg q]
      by_cases q2 : σ 6 1 (px p 1) = nI i
      · exact absurd ⟨h1, Or.inr q2⟩ h
      · rw [if_neg q2]
  · rw [if_neg h1]
theorem S_hd_le (k : Int32) : ∃ h, h ≤ 5 ∧ S_hd k = nI h := by
  unfold S_hd
  repeat' split
  all_goals first | exact ⟨4, by omega, rfl⟩ | exact ⟨5, by omega, rfl⟩ | exact ⟨2, by omega, rfl⟩ | exact ⟨3, by omega, rfl⟩ | exact ⟨0, by omega, rfl⟩
/-- what one who goes in takes along, and the row then -/
def S_in (ρ : Nat → Int32) (p i : Nat) : Int32 × (Nat → Int32) :=
  if S_takes ρ i (ρ (px p 0)) = -1 then (-1, upd ρ (px p 1) (nI i)) else
  (S_takes ρ i (ρ (px p 0)), if S_hd (ρ (sx i 0)) ≤ ρ (sx i 3)
    then upd (upd (upd ρ (px p 1) (nI i)) (px p 0) (ρ (px p 0) &&& ((nI 1 <<< (S_takes ρ i (ρ (px p 0)) &&& nI 31)) ^^^ (-1)))) 4 (S_mo (ρ 4) (nI 99999))
    else S_lay (upd (upd ρ (px p 1) (nI i)) (px p 0) (ρ (px p 0) &&& ((nI 1 <<< (S_takes ρ i (ρ (px p 0)) &&& nI 31)) ^^^ (-1)))) i (S_takes ρ i (ρ (px p 0))))
theorem okS_upd {ρ : Nat → Int32} {i a : Nat} {v : Int32} (h : okS ρ i) (ha : ¬ sx i 3 = a) : okS (upd ρ a v) i := ⟨h.1, by rw [upd_ne _ _ ha]; exact h.2⟩
theorem nK_upd {ρ : Nat → Int32} {i a : Nat} {v : Int32} (ha : ¬ sx i 3 = a) : nK (upd ρ a v) i = nK ρ i := by unfold nK; rw [upd_ne _ _ ha]
theorem m_goesIn {p i : Nat} (σ : ts_S) (hp : p < 6) (h : okS (σ 6 1) i) : F_X5_goesIn [.inr (.inr (.inl (6, 0))), .inl (nI p), .inl (nI i)] σ = some (some (.inl (S_in (σ 6 1) p i).1), mr σ (S_in (σ 6 1) p i).2) := by
  have hi := h.1
  obtain ⟨h1, h2⟩ := okS_k h
  have q1 : px p 1 < 111 := by unfold px; omega
  have q0 : px p 0 < 111 := by unfold px; omega
  have n1 : ¬ px p 0 = px p 1 := by unfold px; omega
  have n2 : ¬ sx i 3 = px p 1 := by unfold px sx; omega
  have n3 : ¬ sx i 3 = px p 0 := by unfold px sx; omega
  have n4 : ¬ sx i 0 = px p 1 := by unfold px sx; omega
  have n5 : ¬ sx i 0 = px p 0 := by unfold px sx; omega
  have n6 : ¬ 4 = px p 1 := by unfold px; omega
  have n7 : ¬ 4 = px p 0 := by unfold px; omega
  rw [e_X5_goesIn, m_personIs σ hp (by omega), bi_s, m_takesOf _ σ h, bi_s, m_personAt, bi_s, ck_n _ q1 (by omega), nw_s, nI_clamp (by omega), mr_up]
  unfold S_in
  rcases S_tk_or (σ 6 1 (sx i 0)) (σ 6 1 (px p 0)) (S_set (σ 6 1) i) with e | ⟨w, hw, e⟩
  · have e : S_takes (σ 6 1) i (σ 6 1 (px p 0)) = -1 := e
    rw [e, if_pos m1lt, if_pos rfl]
  · have e : S_takes (σ 6 1) i (σ 6 1 (px p 0)) = nI w := e
    rw [e, if_neg (nn (by omega)), if_neg (nm (by omega)), m_personAt, bi_s, ck_n _ q0 (by omega), ck_n _ q0 (by omega), nw_s, nI_clamp (by omega), mr_up, mr_rd, mr_mr, m_sillIs _ hi (by omega), bi_s, m_holds _ hi, bi_s, mr_rd, upd_ne _ _ n1, upd_ne _ _ n3, upd_ne _ _ n2, upd_ne _ _ n5, upd_ne _ _ n4]
    by_cases q : S_hd (σ 6 1 (sx i 0)) ≤ σ 6 1 (sx i 3)
    · rw [if_pos q, if_pos q, m_more _ _ (by omega), bv_s, mr_rd, mr_mr, upd_ne _ _ n7, upd_ne _ _ n6]
    · rw [if_neg q, if_neg q, m_lays _ _ (okS_upd (okS_upd h n2) n3) ?_, bi_s, mr_rd, mr_mr]
      rw [mr_rd, nK_upd n3, nK_upd n2]
      obtain ⟨hh, hh1, hh2⟩ := S_hd_le (σ 6 1 (sx i 0))
      rw [hh2, h1] at q
      have := Int32.not_le.mp q
      have := (nI_ltI (by omega) (by omega)).mp this
      omega
/-- words from place j on step up, t of them -/
def S_sh (ρ : Nat → Int32) (i j t : Nat) : Nat → Int32 := fun a => if sx i (4 + j) ≤ a ∧ a < sx i (4 + j + t) then ρ (a + 1) else ρ a
theorem S_sh_0 (ρ : Nat → Int32) (i j : Nat) : S_sh ρ i j 0 = ρ := by
  funext a
  unfold S_sh sx
  rw [if_neg (by omega)]
theorem S_sh_s (ρ : Nat → Int32) (i j t : Nat) : upd (S_sh ρ i j t) (sx i (4 + (j + t))) (ρ (sx i (4 + (j + t) + 1))) = S_sh ρ i j (t + 1) := by
  funext a
  unfold upd S_sh sx
  by_cases h : a = 21 + 9 * i + (4 + (j + t))
  · rw [if_pos h, if_pos (by omega), h]
    congr 1
  · rw [if_neg h]
    by_cases h2 : 21 + 9 * i + (4 + j) ≤ a ∧ a < 21 + 9 * i + (4 + j + t)
    · rw [if_pos h2, if_pos (by omega)]
    · rw [if_neg h2, if_neg (by omega)]
theorem S_sh_out (ρ : Nat → Int32) {i j t a : Nat} (h : a < sx i (4 + j) ∨ sx i (4 + j + t) ≤ a) : S_sh ρ i j t a = ρ a := by
  unfold S_sh
  rw [if_neg (by omega)]
/-- behind the words' stepping up -/
def S_oz (ρ : Nat → Int32) (p i : Nat) (w : Int32) : Nat → Int32 :=
  if S_bit (ρ (px p 0)) w = nI 1 then upd (upd ρ (sx i 3) (ρ (sx i 3) - nI 1)) 4 (S_mo (ρ 4) (nI 99999))
  else upd (upd ρ (sx i 3) (ρ (sx i 3) - nI 1)) (px p 0) (ρ (px p 0) ||| (nI 1 <<< (w &&& nI 31)))
theorem m_out_loop {p i j : Nat} (w : Int32) (hp : p < 6) (hj : j < 5) : ∀ (n t : Nat) (σ : ts_S) (ρ : Nat → Int32), okS ρ i → j < nK ρ i → j + t + n = nK ρ i - 1 → σ 6 1 = S_sh ρ i j t → H_X5_comesOut_31 (nI p) (nI i) (nI j) w (nI (j + t)) σ = some (some (.inl w), mr σ (S_oz (S_sh ρ i j (nK ρ i - 1 - j)) p i w))
  | 0, t, σ, ρ, h, hk, e, hσ => by
    have hi := h.1
    obtain ⟨h1, h2⟩ := okS_k h
    have q0 : px p 0 < 111 := by unfold px; omega
    have q3 : sx i 3 < 111 := by unfold sx; omega
    have n3 : ¬ px p 0 = sx i 3 := by unfold px sx; omega
    have n4 : ¬ 4 = sx i 3 := by unfold sx; omega
    have et : nK ρ i - 1 - j = t := by omega
    have z3 : S_sh ρ i j t (sx i 3) = nI (nK ρ i) := by rw [S_sh_out ρ (by unfold sx; omega), h1]
    obtain ⟨m, hm⟩ : ∃ m, nK ρ i = m + 1 := ⟨nK ρ i - 1, by omega⟩
    have hb : ∀ x y : Int32, ((x >>> (y &&& nI 31)) &&& nI 1) = S_bit x y := fun _ _ => rfl
    rw [h_X5_comesOut_31, m_sillIs σ hi (by omega), bi_s, hσ, z3, hm, nI_m1', if_pos (nI_le (by omega) (by omega)), m_sillAt, bi_s, ck_n _ q3 (by omega), ck_n _ q3 (by omega), nw_s, nI_clamp (by omega), mr_up, m_personIs _ hp (by omega), bi_s, hb, mr_rd, upd_ne _ _ n3, hσ, ← hm, et]
    unfold S_oz
    by_cases q : S_bit (S_sh ρ i j t (px p 0)) w = nI 1
    · rw [if_pos q, if_pos q, m_more _ _ (by omega), bv_s, mr_rd, mr_mr, upd_ne _ _ n4]
    · rw [if_neg q, if_neg q, m_personAt, bi_s, ck_n _ q0 (by omega), ck_n _ q0 (by omega), nw_s, nI_clamp (by omega), mr_up, mr_rd, mr_mr, upd_ne _ _ n3]
  | n + 1, t, σ, ρ, h, hk, e, hσ => by
    have hi := h.1
    obtain ⟨h1, h2⟩ := okS_k h
    have z3 : S_sh ρ i j t (sx i 3) = nI (nK ρ i) := by rw [S_sh_out ρ (by unfold sx; omega), h1]
    obtain ⟨m, hm⟩ : ∃ m, nK ρ i = m + 1 := ⟨nK ρ i - 1, by omega⟩
    have q1 : sx i (4 + (j + t)) < 111 := by unfold sx; omega
    have z4 : S_sh ρ i j t (sx i (4 + (j + t) + 1)) = ρ (sx i (4 + (j + t) + 1)) := S_sh_out ρ (by unfold sx; omega)
    rw [h_X5_comesOut_31, m_sillIs σ hi (by omega), bi_s, hσ, z3, hm, nI_m1', if_neg (nI_ge (by omega) (by omega)), nI_add, m_sillAt, bi_s, nI_add, m_sillIs _ hi (by omega), bi_s, ck_n _ q1 (by omega), nw_s, nI_clamp (by omega), mr_up, hσ, z4, S_sh_s, nI_add, ← hm]
    rw [show j + t + 1 = j + (t + 1) by omega, m_out_loop w hp hj n (t + 1) _ ρ h hk (by omega) (mr_rd _ _), mr_mr]
/-- what one who comes out is given, and the row then -/
def S_out (ρ : Nat → Int32) (p i : Nat) : Int32 × (Nat → Int32) :=
  if S_from ρ i = -1 then (-1, upd ρ (px p 1) (-1)) else
  (S_gives ρ i, S_oz (S_sh (upd ρ (px p 1) (-1)) i (S_from ρ i).toNatClampNeg (nK ρ i - 1 - (S_from ρ i).toNatClampNeg)) p i (S_gives ρ i))
theorem m_comesOut {p i : Nat} (σ : ts_S) (hp : p < 6) (h : okS (σ 6 1) i) : F_X5_comesOut [.inr (.inr (.inl (6, 0))), .inl (nI p), .inl (nI i)] σ = some (some (.inl (S_out (σ 6 1) p i).1), mr σ (S_out (σ 6 1) p i).2) := by
  have hi := h.1
  obtain ⟨h1, h2⟩ := okS_k h
  have q1 : px p 1 < 111 := by unfold px; omega
  have n2 : ¬ sx i 3 = px p 1 := by unfold px sx; omega
  rw [e_X5_comesOut, m_givesFrom σ h, bi_s, m_gives σ h, bi_s, m_personAt, bi_s, ck_n _ q1 (by omega), nw_s, nI_clamp (by omega), mr_up]
  unfold S_out
  rcases S_from_or (σ 6 1) i with e | ⟨j, hj, e⟩
  · rw [e, if_pos m1lt, if_pos rfl]
    have e2 : S_gives (σ 6 1) i = -1 := by unfold S_gives; rw [if_pos e]
    rw [e2]
  · rw [e, if_neg (nn (by omega)), if_neg (nm (by omega)), nI_clamp (by omega)]
    have := m_out_loop (p := p) (i := i) (j := j) (S_gives (σ 6 1) i) hp (by omega) (nK (σ 6 1) i - 1 - j) 0 (mr σ (upd (σ 6 1) (px p 1) (-1))) (upd (σ 6 1) (px p 1) (-1)) (okS_upd h n2) (by rw [nK_upd n2]; exact hj) (by rw [nK_upd n2]; omega) (by rw [mr_rd, S_sh_0])
    rw [nK_upd n2, mr_mr] at this
    exact this
/-- the numbers of crossings grow -/
def S_cz (ρ : Nat → Int32) (p i : Nat) : Nat → Int32 := upd (upd ρ (sx i 1) (S_mo (ρ (sx i 1)) (nI 9999))) (px p 2) (S_mo (ρ (px p 2)) (nI 9999))
def S_cr (ρ : Nat → Int32) (p i : Nat) : Int32 × (Nat → Int32) := if ρ (px p 1) = -1 then ((S_in ρ p i).1, S_cz (S_in ρ p i).2 p i) else ((S_out ρ p i).1, S_cz (S_out ρ p i).2 p i)
theorem m_crosses {p i : Nat} (σ : ts_S) (hp : p < 6) (h : okS (σ 6 1) i) : F_X5_crosses [.inr (.inr (.inl (6, 0))), .inl (nI p), .inl (nI i)] σ = some (some (.inl (S_cr (σ 6 1) p i).1), mr σ (S_cr (σ 6 1) p i).2) := by
  have hi := h.1
  have q1 : sx i 1 < 111 := by unfold sx; omega
  have q2 : px p 2 < 111 := by unfold px; omega
  have n1 : ¬ px p 2 = sx i 1 := by unfold px sx; omega
  rw [e_X5_crosses, m_personIs σ hp (by omega), bi_s]
  unfold S_cr
  by_cases e : σ 6 1 (px p 1) = -1
  · rw [if_pos e, if_pos e, m_goesIn σ hp h, bi_s, m_sillAt, bi_s, m_more _ _ q1, bv_s, m_personAt, bi_s, m_more _ _ q2, bv_s, mr_rd, mr_mr, mr_rd, mr_mr, upd_ne _ _ n1]; rfl
  · rw [if_neg e, if_neg e, m_comesOut σ hp h, bi_s, m_sillAt, bi_s, m_more _ _ q1, bv_s, m_personAt, bi_s, m_more _ _ q2, bv_s, mr_rd, mr_mr, mr_rd, mr_mr, upd_ne _ _ n1]; rfl
def nS (ρ : Nat → Int32) : Nat := (ρ 1).toNatClampNeg
def nP (ρ : Nat → Int32) : Nat := (ρ 3).toNatClampNeg
theorem m_isSill_t {a : Int32} (σ : ts_S) (h : nI 0 ≤ a ∧ a ≤ σ 6 1 1 - nI 1) : F_X5_isSill [.inr (.inr (.inl (6, 0))), .inl a] σ = some (some (.inl (nI 1)), σ) := by
  rw [e_X5_isSill, ck_n _ (by omega) (by omega), mwithin_t σ h, bi_s, if_pos (Or.inr rfl)]
theorem m_isSill_f {a : Int32} (σ : ts_S) (h : ¬ (nI 0 ≤ a ∧ a ≤ σ 6 1 1 - nI 1)) : F_X5_isSill [.inr (.inr (.inl (6, 0))), .inl a] σ = some (some (.inl (nI 0)), σ) := by
  rw [e_X5_isSill, ck_n _ (by omega) (by omega), mwithin_f σ h, bi_s, if_pos (Or.inl rfl)]
theorem m_isPerson_t {a : Int32} (σ : ts_S) (h : nI 0 ≤ a ∧ a ≤ σ 6 1 3 - nI 1) : F_X5_isPerson [.inr (.inr (.inl (6, 0))), .inl a] σ = some (some (.inl (nI 1)), σ) := by
  rw [e_X5_isPerson, ck_n _ (by omega) (by omega), mwithin_t σ h, bi_s, if_pos (Or.inr rfl)]
theorem m_isPerson_f {a : Int32} (σ : ts_S) (h : ¬ (nI 0 ≤ a ∧ a ≤ σ 6 1 3 - nI 1)) : F_X5_isPerson [.inr (.inr (.inl (6, 0))), .inl a] σ = some (some (.inl (nI 0)), σ) := by
  rw [e_X5_isPerson, ck_n _ (by omega) (by omega), mwithin_f σ h, bi_s, if_pos (Or.inl rfl)]
/-- up to one less is below -/
theorem le_pred {a : Int32} {n : Nat} (hn : n < 2 ^ 31) : (nI 0 ≤ a ∧ a ≤ nI n - nI 1) ↔ (nI 0 ≤ a ∧ a < nI n) := by
  cases n with
  | zero =>
    have e : nI 0 - nI 1 = -1 := by decide
    rw [e]
    constructor
    · intro h
      exact absurd (Int32.le_trans h.1 h.2) m1ge
    · intro h
      exact absurd h.2 (Int32.not_lt.mpr h.1)
  | succ n =>
    rw [nI_m1']
    constructor
    · intro h
      obtain ⟨j, hj, rfl⟩ := in_ofw (by omega) h
      exact ⟨h.1, nI_lt (by omega) (by omega)⟩
    · intro h
      obtain ⟨j, hj, rfl⟩ := in_of (by omega) h
      exact ⟨h.1, nI_le (by omega) (by omega)⟩
