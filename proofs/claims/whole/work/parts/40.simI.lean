/-! odds -/
def gd (h : Nat) : Nat → Nat
  | 0 => 1
  | d + 1 => if d + 1 ≤ 1 then 1 else if h % (d + 1) = 0 ∧ 12 % (d + 1) = 0 then d + 1 else gd h d
theorem gd_gcd : ∀ h, h < 13 → gd h 12 = Nat.gcd h 12 ∧ 0 < Nat.gcd h 12 ∧ Nat.gcd h 12 < 13 := by decide
theorem c_gd {h : Nat} (hh : h < 13) (σ : ts_S) : ∀ d, d < 13 → H_X4_commonDivisor_2 (nI h) (nI 12) (nI d) σ = some (some (.inl (nI (gd h d))), σ)
  | 0, _ => by rw [h_X4_commonDivisor_2, if_pos (by decide)]; rfl
  | d + 1, hd => by
    rw [h_X4_commonDivisor_2, gd]
    by_cases q : d + 1 ≤ 1
    · rw [if_pos (nI_le q (by omega)), if_pos q]
    · have nz : ¬ nI (d + 1) = nI 0 := ki_eq (by omega) (by omega) (by omega)
      rw [if_neg (nI_ge (by omega) (by omega)), if_neg q, if_neg nz, pk_rem (a := h) (d := d + 1) (by omega) (by omega) (by omega), if_neg nz, pk_rem (a := 12) (d := d + 1) (by omega) (by omega) (by omega), pk_m1, c_gd hh σ d (by omega)]
      have l1 : h % (d + 1) < d + 1 := Nat.mod_lt _ (by omega)
      have l2 : 12 % (d + 1) < d + 1 := Nat.mod_lt _ (by omega)
      by_cases z1 : h % (d + 1) = 0
      · by_cases z2 : 12 % (d + 1) = 0
        · rw [if_pos (by rw [z1]), if_pos (by rw [z2]), if_pos ⟨z1, z2⟩]
        · rw [if_pos (by rw [z1]), if_neg (ki_eq (by omega) (by omega) z2), if_neg (fun y => z2 y.2)]
      · rw [if_neg (ki_eq (by omega) (by omega) z1), if_neg (fun y => z1 y.1)]
def S_pw (x : Int64) : Nat → Int64
  | 0 => 1
  | n + 1 => S_pw x n * x
theorem c_pw (x : Int32) {n : Nat} (hn : n < 2 ^ 31) (σ : ts_S) : ∀ t j, j + t = n → H_X4_power_5 x (nI n) (S_pw (Int32.toInt64 x) j) (nI j) σ = some (some (.inr (.inl (S_pw (Int32.toInt64 x) n))), σ)
  | 0, j, e => by
    rw [h_X4_power_5, if_pos (nI_le (show n ≤ j by omega) (by omega)), show j = n by omega]
  | t + 1, j, e => by
    rw [h_X4_power_5, if_neg (nI_ge (by omega) hn), nj_s, nI_add]
    exact c_pw x hn σ t (j + 1) (by omega)
theorem m_eu (v1 v2 v3 : Int32) (h : Int32) (σ : ts_S) : ∀ f a b, b < f → a < 2 ^ 31 → b < 2 ^ 31 → H_X5_odds_54 v1 v2 v3 h (nI a) (nI b) σ = H_X5_odds_83 v1 v2 v3 h (nI (Nat.gcd b a)) (nI 0) 1 (nI 0) σ
  | 0, a, b, hf, _, _ => by omega
  | f + 1, a, b, hf, ha, hb => by
    rw [h_X5_odds_54]
    by_cases q : b = 0
    · subst q
      rw [if_pos rfl, Nat.gcd_zero_left]
    · have l := Nat.mod_lt a (show b > 0 by omega)
      rw [if_neg (ki_eq hb (by omega) q), if_neg (ki_eq hb (by omega) q), pk_rem ha (by omega) hb, ni_s, m_eu v1 v2 v3 h σ f b (a % b) (by omega) hb (by omega), ← Nat.gcd_rec]
theorem m_pw (v1 v3 : Int32) {n h d : Nat} (hn : n < 2 ^ 31) (hd : d < 2 ^ 31) (d0 : ¬ d = 0) (v6 : Int32) (σ : ts_S) : ∀ t j, j + t = n → H_X5_odds_83 v1 (nI n) v3 (nI h) (nI d) v6 (S_pw (Int32.toInt64 (if v3 = nI 0 then nI h / nI d else nI 12 / nI d)) j) (nI j) σ = some (some (.inr (.inl (S_pw (Int32.toInt64 (if v3 = nI 0 then nI h / nI d else nI 12 / nI d)) n))), σ)
  | 0, j, e => by
    rw [h_X5_odds_83, if_pos (nI_le (show n ≤ j by omega) (by omega)), show j = n by omega]
  | t + 1, j, e => by
    have ih := m_pw v1 v3 (h := h) hn hd d0 v6 σ t (j + 1) (by omega)
    rw [S_pw] at ih
    rw [h_X5_odds_83, if_neg (nI_ge (by omega) hn), if_neg (ki_eq hd (by omega) d0), nj_s, nj_s, nI_add]
    by_cases q : v3 = nI 0
    · simp only [if_pos q] at ih ⊢; exact ih
    · simp only [if_neg q] at ih ⊢; rw [if_neg (ki_eq hd (by omega) d0)]; exact ih
theorem sim_odds (a1 a2 a3 : Int32) : SIMl F_X4_odds F_X5_odds [.inl a1, .inl a2, .inl a3] := by
  intro σ I
  have R := INV_R I
  have W := R.1
  have hP := W.2.2.1
  by_cases h1 : nI 0 ≤ a1 ∧ a1 < nI (nP (σ 6 1))
  · by_cases h2 : nI 0 ≤ a2 ∧ a2 < nI 18
    · by_cases h3 : nI 0 ≤ a3 ∧ a3 < nI 2
      · obtain ⟨p, hp, rfl⟩ := in_of (by omega) h1
        obtain ⟨n, hn, rfl⟩ := in_of (by omega) h2
        have p6 := WR_p6 W hp
        obtain ⟨h, hh, eh⟩ := (WR_P W hp).1
        have e7 := (RQ_P R hp).1
        have b12 := bc_le12 h
        obtain ⟨g1, g2, g3⟩ := gd_gcd (bc h) (by omega)
        have gx : F_X4_commonDivisor [.inl (nI (bc h)), .inl (nI 12)] σ = some (some (.inl (nI (Nat.gcd (bc h) 12))), σ) := by
          rw [e_X4_commonDivisor, c_gd (by omega) σ 12 (by omega), g1]
        apply sim_mkl (r := ((S_pw (Int32.toInt64 (if a3 = nI 0 then nI (bc h) / nI (Nat.gcd (bc h) 12) else nI 12 / nI (Nat.gcd (bc h) 12))) n))) (h3 := I)
        · rw [e_X4_odds, c_isPerson_t hq1 σ R h1, bi_s, if_neg n10, cw_t (n := 17) σ (by omega) h2, bi_s, if_neg n10, cw_t (n := 1) σ (by omega) h3, bi_s, if_neg n10, ck_n _ p6 (by omega), nI_clamp (by omega), e7, eh, c_bc hh, bi_s, gx, bi_s, if_neg (ki_eq (by omega) (by omega) (by omega)), e_X4_power, e_X4_power]
          by_cases q : a3 = nI 0
          · rw [if_pos q, if_pos q]
            erw [c_pw _ (show n < 2 ^ 31 by omega) σ n 0 (by omega)]
            rw [bl_s]
          · rw [if_neg q, if_neg q]
            erw [c_pw _ (show n < 2 ^ 31 by omega) σ n 0 (by omega)]
            rw [bl_s, if_neg (ki_eq (by omega) (by omega) (by omega))]
        · have e5 := m_pw (nI p) a3 (n := n) (h := bc h) (d := Nat.gcd (bc h) 12) (by omega) (by omega) (by omega) (nI 0) σ n 0 (by omega)
          rw [e_X5_odds, mp_t σ W h1, bi_s, if_neg n10, mw_t (n := 17) σ (by omega) h2, bi_s, if_neg n10, mw_t (n := 1) σ (by omega) h3, bi_s, if_neg n10, m_personIs σ p6 (by omega), bi_s, eh, m_bits hh, bi_s, m_eu _ _ _ _ σ 13 12 (bc h) (by omega) (by omega) (by omega)]
          exact e5
      · obtain ⟨A, e1, σ2, e2, I2⟩ := find0 I
        apply sim_mkl (h3 := I2)
        · rw [e_X4_odds, c_isPerson_t hq1 σ R h1, bi_s, if_neg n10, cw_t (n := 17) σ (by omega) h2, bi_s, if_neg n10, cw_f (n := 1) σ (by omega) h3, bi_s, if_pos rfl, e1, bi_s]
        · rw [e_X5_odds, mp_t (va_up σ 0 A) W h1, bi_s, if_neg n10, mw_t (n := 17) _ (by omega) h2, bi_s, if_neg n10, mw_f (n := 1) _ (by omega) h3, bi_s, if_pos rfl, e2, bi_s]
    · obtain ⟨A, e1, σ2, e2, I2⟩ := find0 I
      apply sim_mkl (h3 := I2)
      · rw [e_X4_odds, c_isPerson_t hq1 σ R h1, bi_s, if_neg n10, cw_f (n := 17) σ (by omega) h2, bi_s, if_pos rfl, e1, bi_s]
      · rw [e_X5_odds, mp_t (va_up σ 0 A) W h1, bi_s, if_neg n10, mw_f (n := 17) _ (by omega) h2, bi_s, if_pos rfl, e2, bi_s]
  · obtain ⟨A, e1, σ2, e2, I2⟩ := find0 I
    apply sim_mkl (h3 := I2)
    · rw [e_X4_odds, c_isPerson_f hq1 σ R h1, bi_s, if_pos rfl, e1, bi_s]
    · rw [e_X5_odds, mp_f (va_up σ 0 A) W h1, bi_s, if_pos rfl, e2, bi_s]
/-! stroll -/
def S_dr (ρ : Nat → Int32) : Nat → Int32 := upd ρ 2 (ρ 2 * nI 1103515245 + nI 12345)
def dv (x : Int32) : Int32 := (Int32.toUInt32 x >>> (Int32.toUInt32 (nI 8) &&& Int32.toUInt32 31)).toInt32
theorem dv_n (x : Int32) : ∃ k, k < 2 ^ 24 ∧ dv x = nI k := by
  have h := pk_ushr x (nI 8) 8 (by decide)
  have l : x.toBitVec.toNat < 2 ^ 32 := x.toBitVec.isLt
  refine ⟨x.toBitVec.toNat / 2 ^ 8, by omega, ?_⟩
  apply Int32.toBitVec_inj.mp
  apply BitVec.eq_of_toNat_eq
  rw [pk_tn (by omega)]
  exact h
theorem c_draw {g : Nat} {ρ : Nat → Int32} (hg : ts_q g) (σ : ts_S) (R : RQ (σ g) ρ) : ∃ τ, F_X1_draw [.inr (.inr (.inl (g, 0)))] σ = some (some (.inl (dv (S_dr ρ 2))), va_up σ g τ) ∧ RQ τ (S_dr ρ) := by
  have W' : WR (S_dr ρ) := WR_head R.1 (a := 2) (by omega) (by omega) (by omega) (fun h => by omega) (fun h => by omega) (fun h => by omega) (fun h => by omega)
  refine ⟨qu (σ g) 0 3 (ρ 2 * nI 1103515245 + nI 12345), ?_, RQ_head R (c := 0) (j := 3) (a := 2) W' (by omega)⟩
  rw [e_X1_draw hg, nw_s, qu_up, up_at, qu_at, R.2.1.2.2.1, S_dr, upd_at]; rfl
theorem m_drawn (σ : ts_S) : F_X5_drawn [.inr (.inr (.inl (6, 0)))] σ = some (some (.inl (dv (S_dr (σ 6 1) 2))), mr σ (S_dr (σ 6 1))) := by
  rw [e_X5_drawn, ck_n _ (by omega) (by omega), ck_n _ (by omega) (by omega), nw_s, ck_n _ (by omega) (by omega), mr_up, mr_rd]; rfl
def S_st (ρ : Nat → Int32) : Nat → Int32 := S_day (upd (S_dr (S_dr ρ)) (5 + dD (S_dr (S_dr ρ)) % 6) (nI (10 * ((dv (S_dr ρ 2)).toNatClampNeg % 6) + (dv (S_dr (S_dr ρ) 2)).toNatClampNeg % 8)))
def S_sts (ρ : Nat → Int32) : Nat → (Nat → Int32)
  | 0 => ρ
  | n + 1 => S_st (S_sts ρ n)
theorem st_val (x y : Int32) : nI 10 * (dv x - dv x / nI 6 * nI 6) + (dv y - dv y / nI 8 * nI 8) = nI (10 * ((dv x).toNatClampNeg % 6) + (dv y).toNatClampNeg % 8) := by
  obtain ⟨k, hk, ek⟩ := dv_n x
  obtain ⟨l, hl, el⟩ := dv_n y
  rw [ek, el, pk_rem (by omega) (by omega) (by omega), pk_rem (by omega) (by omega) (by omega), pk_mul, nI_add, nI_clamp (by omega), nI_clamp (by omega)]
theorem WR_st0 {ρ : Nat → Int32} (W : WR ρ) (a b : Nat) : WR (upd (S_dr (S_dr ρ)) (5 + dD (S_dr (S_dr ρ)) % 6) (nI (10 * (a % 6) + b % 8))) := by
  have W1 : WR (S_dr ρ) := WR_head W (a := 2) (by omega) (by omega) (by omega) (fun h => by omega) (fun h => by omega) (fun h => by omega) (fun h => by omega)
  have W2 : WR (S_dr (S_dr ρ)) := WR_head W1 (a := 2) (by omega) (by omega) (by omega) (fun h => by omega) (fun h => by omega) (fun h => by omega) (fun h => by omega)
  exact WR_head W2 (by omega) (by omega) (by omega) (fun h => by omega) (fun h => by omega) (fun _ => ⟨a % 6, b % 8, by omega, by omega, rfl⟩) (fun h => by omega)
theorem WR_sts {ρ : Nat → Int32} (W : WR ρ) : ∀ n, WR (S_sts ρ n)
  | 0 => W
  | n + 1 => WR_day (WR_st0 (WR_sts W n) _ _)
theorem c_stroll_l {ρ : Nat → Int32} {n : Nat} (hn : n < 2 ^ 31) : ∀ t j (σ : ts_S), j + t = n → RQ (σ 1) (S_sts ρ j) → ∃ τ, H_X4_stroll_38 (nI n) (nI j) σ = some (some (.inl (S_sts ρ n 4)), va_up σ 1 τ) ∧ RQ τ (S_sts ρ n)
  | 0, j, σ, e, R => by
    have : j = n := by omega
    subst this
    exact ⟨σ 1, by rw [h_X4_stroll_38, if_pos (nI_le (Nat.le_refl _) hn), R.2.1.2.2.2.2, up_id], R⟩
  | t + 1, j, σ, e, R => by
    obtain ⟨τ1, e1, R1⟩ := c_draw hq1 σ R
    obtain ⟨τ2, e2, R2⟩ := c_draw hq1 (va_up σ 1 τ1) (by rw [up_at]; exact R1)
    rw [up_uu] at e2
    have e3 := c_today hq1 (va_up σ 1 τ2) (by rw [up_at]; exact R2)
    have W' := WR_st0 R.1 (dv (S_dr (S_sts ρ j) 2)).toNatClampNeg (dv (S_dr (S_dr (S_sts ρ j)) 2)).toNatClampNeg
    have R3 := RQ_head R2 (c := 1) (j := dD (S_dr (S_dr (S_sts ρ j))) % 6) W' (by omega)
    obtain ⟨τ4, e4, R4⟩ := c_passDays hq1 (n := 1) (va_up σ 1 (qu τ2 1 (dD (S_dr (S_dr (S_sts ρ j))) % 6) (nI (10 * ((dv (S_dr (S_sts ρ j) 2)).toNatClampNeg % 6) + (dv (S_dr (S_dr (S_sts ρ j)) 2)).toNatClampNeg % 8)))) (by omega) (by rw [up_at]; exact R3)
    rw [up_uu] at e4
    obtain ⟨τ5, e5, R5⟩ := c_stroll_l hn t (j + 1) (va_up σ 1 τ4) (by omega) (by rw [up_at]; exact R4)
    rw [up_uu] at e5
    refine ⟨τ5, ?_, R5⟩
    rw [h_X4_stroll_38, if_neg (nI_ge (by omega) hn), e1, bi_s, ni_s, e2, bi_s, ni_s, e3, bi_s, ck_n _ (by omega) (by omega), nw_s, nI_clamp (by omega), st_val, qu_up, up_uu, up_at, e4, bv_s, nI_add, e5]
theorem m_stroll_l {ρ : Nat → Int32} (W : WR ρ) {n : Nat} (hn : n < 2 ^ 31) : ∀ t j (σ : ts_S), j + t = n → σ 6 1 = S_sts ρ j → H_X5_stroll_39 (nI n) (nI j) σ = some (some (.inl (S_sts ρ n 4)), mr σ (S_sts ρ n))
  | 0, j, σ, e, h => by
    have : j = n := by omega
    subst this
    rw [h_X5_stroll_39, if_pos (nI_le (Nat.le_refl _) hn), ck_n _ (by omega) (by omega), ← h, mr_id]
  | t + 1, j, σ, e, h => by
    have Wj := WR_sts W j
    have W' := WR_st0 Wj (dv (S_dr (S_sts ρ j) 2)).toNatClampNeg (dv (S_dr (S_dr (S_sts ρ j)) 2)).toNatClampNeg
    have W1 : WR (S_dr (S_sts ρ j)) := WR_head Wj (a := 2) (by omega) (by omega) (by omega) (fun h => by omega) (fun h => by omega) (fun h => by omega) (fun h => by omega)
    have W2 : WR (S_dr (S_dr (S_sts ρ j))) := WR_head W1 (a := 2) (by omega) (by omega) (by omega) (fun h => by omega) (fun h => by omega) (fun h => by omega) (fun h => by omega)
    rw [h_X5_stroll_39, if_neg (nI_ge (by omega) hn), m_drawn, bi_s, ni_s, h, m_drawn, bi_s, ni_s, mr_rd, mr_mr, m_placeNow _ (by rw [mr_rd]; exact W2), bi_s, mr_rd, ck_n _ (by omega) (by omega), nw_s, nI_clamp (by omega), st_val, mr_up, mr_rd, mr_mr, m_day _ (by rw [mr_rd]; exact W'), bv_s, mr_rd, mr_mr, nI_add, m_stroll_l W hn t (j + 1) _ (by omega) (by rw [mr_rd]; rfl), mr_mr]
theorem sim_stroll (a1 : Int32) : SIM F_X4_stroll F_X5_stroll [.inl a1] := by
  intro σ I
  have R := INV_R I
  have W := R.1
  by_cases h1 : nI 1 ≤ a1 ∧ a1 ≤ nI 20
  · obtain ⟨n, hn1, hn, rfl⟩ := in_of1 (by omega) h1
    by_cases h2 : σ 6 1 0 + nI n ≤ nI 99999
    · obtain ⟨τ, e1, R1⟩ := c_stroll_l (ρ := σ 6 1) (show n < 2 ^ 31 by omega) n 0 σ (by omega) R
      apply sim_mk (h3 := INV_q I R1)
      · rw [e_X4_stroll, within_t σ h1, bi_s, if_neg n10, R.2.1.1, if_pos h2]
        exact e1
      · have e : (va_up σ 1 τ) 6 1 0 = σ 6 1 0 := rfl
        rw [e_X5_stroll, mwithin_t _ h1, bi_s, if_neg n10, ck_n _ (by omega) (by omega), e, if_pos h2]
        exact m_stroll_l W (show n < 2 ^ 31 by omega) n 0 (va_up σ 1 τ) (by omega) rfl
    · obtain ⟨A, e1, σ2, e2, I2⟩ := find4 I
      apply sim_mk (h3 := I2)
      · rw [e_X4_stroll, within_t σ h1, bi_s, if_neg n10, R.2.1.1, if_neg h2, e1, bi_s]
      · have e : (va_up σ 0 A) 6 1 0 = σ 6 1 0 := rfl
        rw [e_X5_stroll, mwithin_t _ h1, bi_s, if_neg n10, ck_n _ (by omega) (by omega), e, if_neg h2, e2, bi_s]
  · obtain ⟨A, e1, σ2, e2, I2⟩ := find0 I
    apply sim_mk (h3 := I2)
    · rw [e_X4_stroll, within_f σ h1, bi_s, if_pos rfl, e1, bi_s]
    · rw [e_X5_stroll, mwithin_f _ h1, bi_s, if_pos rfl, e2, bi_s]
/-! told words -/
abbrev Q_so (ρ u : Nat → Int32) (b a i : Nat) : Prop := ¬ (u (b + i) = -1 ∨ u (b + i) = S_days ρ i a)
theorem SH_s {σ : ts_S} (I : INV σ) {s : Nat} (hs : s < 4) : σ 5 1 s = σ 6 8 s ∧ σ 5 2 s = σ 6 9 s ∧ (σ 6 8 s = nI 0 ∨ σ 6 8 s = nI 8 ∨ σ 6 8 s = nI 16 ∨ σ 6 8 s = nI 32) ∧ ∃ n, n ≤ 40 ∧ σ 6 9 s = nI n ∧ ∀ i, i < n → σ 5 3 (40 * s + i) = σ 6 10 (40 * s + i) := I.2.2.2.2 s hs
theorem x_numberAt {s i : Nat} (hs : s < 4) (hi : i < 40) (σ : ts_S) : F_X2_numberAt [.inr (.inr (.inl (5, 0))), .inl (nI s), .inl (nI i)] σ = some (some (.inl (σ 5 3 (40 * s + i))), σ) := by
  rw [e_X2_numberAt, pk_mul, nI_add, ck_n _ (by omega) (by omega), nI_clamp (by omega), Nat.mul_comm s 40]
theorem x_admits {s i : Nat} (hs : s < 4) (hi : i < 40) (v : Int32) (σ : ts_S) : F_X2_admits [.inr (.inr (.inl (5, 0))), .inl (nI s), .inl (nI i), .inl v] σ = some (some (.inl (if σ 5 3 (40 * s + i) = -1 ∨ σ 5 3 (40 * s + i) = v then nI 1 else nI 0)), σ) := by
  rw [e_X2_admits, x_numberAt hs hi, bi_s]
  by_cases h1 : σ 5 3 (40 * s + i) = -1
  · rw [if_pos h1, if_pos (Or.inl h1)]
  · rw [if_neg h1]
    by_cases h2 : σ 5 3 (40 * s + i) = v
    · rw [if_pos h2, if_pos (Or.inr h2)]
    · rw [if_neg h2, if_neg (fun y => y.elim h1 h2)]
theorem c_told_l {ρ u : Nat → Int32} (W : WR ρ) {s p n : Nat} (hs : s < 4) (hp : p < nP ρ) (hn : n ≤ 40) : ∀ t i (σ : ts_S), i + t = n → σ 5 2 s = nI n → (∀ i, i < n → σ 5 3 (40 * s + i) = u (40 * s + i)) → RQ (σ 2) (S_days ρ (i - 1)) → ∃ τ, H_X4_hasAsTold_2 (nI s) (nI p) (nI i) σ = some (some (.inl (if S_le (Q_so ρ u (40 * s) (px p 0)) t i = -1 then nI 1 else nI 0)), va_up σ 2 τ)
  | 0, i, σ, e, hz, hu, R => ⟨σ 2, by rw [h_X4_hasAsTold_2, ck_n _ hs (by omega), nI_clamp (by omega), hz, if_pos (nI_le (by omega) (by omega)), S_le, if_pos rfl, up_id]⟩
  | t + 1, i, σ, e, hz, hu, R => by
    have p6 := WR_p6 W hp
    rw [h_X4_hasAsTold_2, ck_n _ hs (by omega), nI_clamp (by omega), hz, if_neg (nI_ge (by omega) (by omega)), S_le, nI_add]
    by_cases i0 : i = 0
    · subst i0
      have e7 := (RQ_P R (p := p) hp).1
      rw [if_pos (by decide), ck_n _ p6 (by omega), nI_clamp (by omega), e7, x_admits hs (by omega), bi_s, hu 0 (by omega)]
      by_cases q : u (40 * s + 0) = -1 ∨ u (40 * s + 0) = S_days ρ 0 (px p 0)
      · obtain ⟨τ, e2⟩ := c_told_l W hs hp hn t (0 + 1) σ (by omega) hz hu R
        refine ⟨τ, ?_⟩
        have q' : u (40 * s + 0) = -1 ∨ u (40 * s + 0) = S_days ρ (0 - 1) (px p 0) := q
        rw [if_pos q', if_neg n10, if_neg (show ¬ Q_so ρ u (40 * s) (px p 0) 0 from fun y => y q), e2]
      · refine ⟨σ 2, ?_⟩
        have q' : ¬ (u (40 * s + 0) = -1 ∨ u (40 * s + 0) = S_days ρ (0 - 1) (px p 0)) := q
        rw [if_neg q', if_pos rfl, if_pos (show Q_so ρ u (40 * s) (px p 0) 0 from q), if_neg (by decide), up_id]
    · obtain ⟨τ, e1, R1⟩ := c_passDays hq2 (n := 1) σ (by omega) R
      have eq : S_days (S_days ρ (i - 1)) 1 = S_days ρ i := by
        obtain ⟨k, rfl⟩ : ∃ k, i = k + 1 := ⟨i - 1, by omega⟩
        rfl
      rw [eq] at R1
      have e7 := (RQ_P R1 (p := p) (by rw [(S_days_np W i).2]; exact hp)).1
      rw [if_neg (nI_ge (by omega) (by omega)), e1, bv_s, ck_n _ p6 (by omega), nI_clamp (by omega), up_at, e7, x_admits hs (by omega), bi_s]
      have hu' : (va_up σ 2 τ) 5 3 (40 * s + i) = u (40 * s + i) := hu i (by omega)
      rw [hu']
      by_cases q : u (40 * s + i) = -1 ∨ u (40 * s + i) = S_days ρ i (px p 0)
      · obtain ⟨τ2, e2⟩ := c_told_l W hs hp hn t (i + 1) (va_up σ 2 τ) (by omega) hz hu (by rw [up_at]; exact R1)
        refine ⟨τ2, ?_⟩
        rw [up_uu] at e2
        rw [if_pos q, if_neg n10, if_neg (show ¬ Q_so ρ u (40 * s) (px p 0) i from fun y => y q), e2]
      · refine ⟨τ, ?_⟩
        rw [if_neg q, if_pos rfl, if_pos (show Q_so ρ u (40 * s) (px p 0) i from q), if_neg (nm (by omega))]
theorem c_keeps_l {ρ u : Nat → Int32} (W : WR ρ) {s p n : Nat} (hs : s < 4) (hp : p < nS ρ) (hn : n ≤ 40) : ∀ t i (σ : ts_S), i + t = n → σ 5 2 s = nI n → (∀ i, i < n → σ 5 3 (40 * s + i) = u (40 * s + i)) → RQ (σ 2) (S_days ρ (i - 1)) → ∃ τ, H_X4_keepsAsTold_2 (nI s) (nI p) (nI i) σ = some (some (.inl (if S_le (Q_so ρ u (40 * s) (sx p 3)) t i = -1 then nI 1 else nI 0)), va_up σ 2 τ)
  | 0, i, σ, e, hz, hu, R => ⟨σ 2, by rw [h_X4_keepsAsTold_2, ck_n _ hs (by omega), nI_clamp (by omega), hz, if_pos (nI_le (by omega) (by omega)), S_le, if_pos rfl, up_id]⟩
  | t + 1, i, σ, e, hz, hu, R => by
    have p6 := WR_i8 W hp
    rw [h_X4_keepsAsTold_2, ck_n _ hs (by omega), nI_clamp (by omega), hz, if_neg (nI_ge (by omega) (by omega)), S_le, nI_add]
    by_cases i0 : i = 0
    · subst i0
      have e7 := (RQ_S R (i := p) hp).2.2.2.1
      rw [if_pos (by decide), ck_n _ p6 (by omega), nI_clamp (by omega), e7, x_admits hs (by omega), bi_s, hu 0 (by omega)]
      by_cases q : u (40 * s + 0) = -1 ∨ u (40 * s + 0) = S_days ρ 0 (sx p 3)
      · obtain ⟨τ, e2⟩ := c_keeps_l W hs hp hn t (0 + 1) σ (by omega) hz hu R
        refine ⟨τ, ?_⟩
        have q' : u (40 * s + 0) = -1 ∨ u (40 * s + 0) = S_days ρ (0 - 1) (sx p 3) := q
        rw [if_pos q', if_neg n10, if_neg (show ¬ Q_so ρ u (40 * s) (sx p 3) 0 from fun y => y q), e2]
      · refine ⟨σ 2, ?_⟩
        have q' : ¬ (u (40 * s + 0) = -1 ∨ u (40 * s + 0) = S_days ρ (0 - 1) (sx p 3)) := q
        rw [if_neg q', if_pos rfl, if_pos (show Q_so ρ u (40 * s) (sx p 3) 0 from q), if_neg (by decide), up_id]
    · obtain ⟨τ, e1, R1⟩ := c_passDays hq2 (n := 1) σ (by omega) R
      have eq : S_days (S_days ρ (i - 1)) 1 = S_days ρ i := by
        obtain ⟨k, rfl⟩ : ∃ k, i = k + 1 := ⟨i - 1, by omega⟩
        rfl
      rw [eq] at R1
      have e7 := (RQ_S R1 (i := p) (by rw [(S_days_np W i).1]; exact hp)).2.2.2.1
      rw [if_neg (nI_ge (by omega) (by omega)), e1, bv_s, ck_n _ p6 (by omega), nI_clamp (by omega), up_at, e7, x_admits hs (by omega), bi_s]
      have hu' : (va_up σ 2 τ) 5 3 (40 * s + i) = u (40 * s + i) := hu i (by omega)
      rw [hu']
      by_cases q : u (40 * s + i) = -1 ∨ u (40 * s + i) = S_days ρ i (sx p 3)
      · obtain ⟨τ2, e2⟩ := c_keeps_l W hs hp hn t (i + 1) (va_up σ 2 τ) (by omega) hz hu (by rw [up_at]; exact R1)
        refine ⟨τ2, ?_⟩
        rw [up_uu] at e2
        rw [if_pos q, if_neg n10, if_neg (show ¬ Q_so ρ u (40 * s) (sx p 3) i from fun y => y q), e2]
      · refine ⟨τ, ?_⟩
        rw [if_neg q, if_pos rfl, if_pos (show Q_so ρ u (40 * s) (sx p 3) i from q), if_neg (nm (by omega))]
theorem m_so_e {ρ α : Nat → Int32} {s a : Nat} (hs : s < 4) {x : Int32} (hx : x = nI 0) (i : Nat) (σ : ts_S) (h1 : ∀ b, 111 ≤ b → σ 6 1 b = ρ b) (h3 : σ 6 3 = cpR ρ α) : H_X5_isSo_16 (nI s) (nI a) x (nI i) σ = some (some (.inl (nI 0)), mr σ ρ) := by
  subst hx
  rw [h_X5_isSo_16, ck_n _ hs (by omega), m_load σ ρ α h3 h1, bv_s, if_pos (Or.inl rfl), if_pos rfl]
  split <;> rfl
theorem m_so_l {ρ α u : Nat → Int32} (W : WR ρ) {s a n : Nat} (hs : s < 4) (ha : a < 111) (hn : n ≤ 40) : ∀ t i (σ : ts_S), i + t = n → σ 6 9 s = nI n → σ 6 10 = u → σ 6 1 = S_days ρ i → σ 6 3 = cpR ρ α → H_X5_isSo_16 (nI s) (nI a) (nI 1) (nI i) σ = some (some (.inl (if S_le (Q_so ρ u (40 * s) a) t i = -1 then nI 1 else nI 0)), mr σ ρ)
  | 0, i, σ, e, hz, hu, h1, h3 => by
    have hb : ∀ b, 111 ≤ b → σ 6 1 b = ρ b := fun b hb => by rw [h1]; exact S_days_hi W hb i
    rw [h_X5_isSo_16, ck_n _ hs (by omega), nI_clamp (by omega), hz, if_pos (nI_le (by omega) (by omega)), m_load σ ρ α h3 hb, bv_s, if_pos (Or.inr rfl), S_le, if_pos rfl]
  | t + 1, i, σ, e, hz, hu, h1, h3 => by
    have Wi := WR_days W i
    have ed := m_day σ (by rw [h1]; exact Wi)
    rw [h1] at ed
    have ih := m_so_l W hs ha hn t (i + 1) (mr σ (S_day (S_days ρ i))) (by omega) hz hu rfl h3
    rw [h_X5_isSo_16, ck_n _ hs (by omega), nI_clamp (by omega), hz, if_neg (nI_ge (by omega) (by omega)), if_neg n10, pk_mul, nI_add, ck_n _ (by omega) (by omega), ni_s, nI_clamp (by omega), hu, ck_n _ ha (by omega), nI_clamp (by omega), h1, ed, bv_s, bv_s, nI_add, ih, mr_mr, S_le, m_so_e (ρ := ρ) (α := α) hs rfl _ _ (fun b hb => by rw [mr_rd, S_day_hi Wi hb, S_days_hi W hb]) (by exact h3), mr_mr]
    by_cases q1 : u (40 * s + i) = -1
    · rw [if_pos q1, if_neg (show ¬ Q_so ρ u (40 * s) a i from fun y => y (Or.inl q1))]
    · rw [if_neg q1]
      by_cases q2 : u (40 * s + i) = S_days ρ i a
      · rw [if_pos q2, if_neg (show ¬ Q_so ρ u (40 * s) a i from fun y => y (Or.inr q2))]
      · rw [if_neg q2, if_pos (show Q_so ρ u (40 * s) a i from fun y => y.elim q1 q2), if_neg (nm (by omega))]
theorem m_isSo {s a n : Nat} (hs : s < 4) (ha : a < 111) (hn : n ≤ 40) (σ : ts_S) (W : WR (σ 6 1)) (hz : σ 6 9 s = nI n) : F_X5_isSo [.inr (.inr (.inl (6, 0))), .inl (nI s), .inl (nI a)] σ = some (some (.inl (if S_le (Q_so (σ 6 1) (σ 6 10) (40 * s) a) n 0 = -1 then nI 1 else nI 0)), ma σ (cpR (σ 6 1) (σ 6 3))) := by
  have e3 := m_so_l (ρ := σ 6 1) (α := σ 6 3) (u := σ 6 10) W hs ha hn n 0 (ma σ (cpR (σ 6 1) (σ 6 3))) (by omega) hz rfl rfl rfl
  rw [mr_ma_id σ _ _ rfl] at e3
  rw [e_X5_isSo, m_save, bv_s]
  exact e3
