/-! fits, kinds -/
theorem x_missing_t {s : Nat} (hs : s < 4) (σ : ts_S) (h : σ 5 1 s = nI 0) : F_X2_isMissing [.inr (.inr (.inl (5, 0))), .inl (nI s)] σ = some (some (.inl (nI 1)), σ) := by
  rw [e_X2_isMissing, ck_n _ hs (by omega), nI_clamp (by omega), if_pos h]
theorem x_missing_f {s : Nat} (hs : s < 4) (σ : ts_S) (h : ¬ σ 5 1 s = nI 0) : F_X2_isMissing [.inr (.inr (.inl (5, 0))), .inl (nI s)] σ = some (some (.inl (nI 0)), σ) := by
  rw [e_X2_isMissing, ck_n _ hs (by omega), nI_clamp (by omega), if_neg h]
theorem m_lacks_b {a1 : Int32} (x : Int32) (σ : ts_S) (h : ¬ (nI 0 ≤ a1 ∧ a1 < nI 4)) : F_X5_lacks [.inr (.inr (.inl (6, 0))), .inl a1, .inl x] σ = some (some (.inl (Int32.ofNat 4293967295)), σ) := by
  rw [e_X5_lacks, sheetn_f σ h, bi_s, if_pos rfl]
theorem m_lacks_m {s : Nat} (hs : s < 4) (x : Int32) (σ : ts_S) (h : σ 6 8 s = nI 0) : F_X5_lacks [.inr (.inr (.inl (6, 0))), .inl (nI s), .inl x] σ = some (some (.inl (Int32.ofNat 4293967290)), σ) := by
  rw [e_X5_lacks, sheetn_t σ ⟨nge (by omega), nI_lt hs (by omega)⟩, bi_s, if_neg n10, ck_n _ hs (by omega), nI_clamp (by omega), if_pos h]
theorem m_lacks_0 {s : Nat} (hs : s < 4) (σ : ts_S) (h : ¬ σ 6 8 s = nI 0) : F_X5_lacks [.inr (.inr (.inl (6, 0))), .inl (nI s), .inl (nI 0)] σ = some (some (.inl (Int32.ofNat 4293967295)), σ) := by
  rw [e_X5_lacks, sheetn_t σ ⟨nge (by omega), nI_lt hs (by omega)⟩, bi_s, if_neg n10, ck_n _ hs (by omega), nI_clamp (by omega), if_neg h, if_pos rfl]
theorem m_lacks_1 {s : Nat} (hs : s < 4) (σ : ts_S) (h : ¬ σ 6 8 s = nI 0) : F_X5_lacks [.inr (.inr (.inl (6, 0))), .inl (nI s), .inl (nI 1)] σ = some (some (.inl (nI 0)), σ) := by
  rw [e_X5_lacks, sheetn_t σ ⟨nge (by omega), nI_lt hs (by omega)⟩, bi_s, if_neg n10, ck_n _ hs (by omega), nI_clamp (by omega), if_neg h, if_neg n10]
theorem c95 : ¬ Int32.ofNat 4293967295 = nI 0 := by decide
theorem c90 : ¬ Int32.ofNat 4293967290 = nI 0 := by decide
theorem mp_x (a : Int32) (ρ : Nat → Int32) (W : WR ρ) : ∃ x, ∀ σ : ts_S, σ 6 1 = ρ → F_X5_isPerson [.inr (.inr (.inl (6, 0))), .inl a] σ = some (some (.inl x), σ) := by
  by_cases q : nI 0 ≤ a ∧ a < nI (nP ρ)
  · exact ⟨_, fun σ e => mp_t σ (by rw [e]; exact W) (by rw [e]; exact q)⟩
  · exact ⟨_, fun σ e => mp_f σ (by rw [e]; exact W) (by rw [e]; exact q)⟩
abbrev ft (ρ : Nat → Int32) (v : Nat) : Nat → Int32 := upd ρ (5 + dD ρ % 6) (nI (10 * (v / 8) + v % 8))
abbrev P_ft (ρ u : Nat → Int32) (s p n v : Nat) : Prop := S_le (Q_so (ft ρ v) u (40 * s) (px p 0)) n 0 = -1
theorem WR_ft {ρ : Nat → Int32} (W : WR ρ) {v : Nat} (hv : v < 48) : WR (ft ρ v) := WR_head W (a := 5 + dD ρ % 6) (by omega) (by omega) (by omega) (fun h => by omega) (fun h => by omega) (fun _ => ⟨v / 8, v % 8, by omega, by omega, rfl⟩) (fun h => by omega)
def c_ft (ρ u : Nat → Int32) (s p n : Nat) : Nat → Int32 := S_fd (fun acc v => if P_ft ρ u s p n v then acc + nI 1 else acc)
theorem c_fits_i {ρ u : Nat → Int32} {s p n : Nat} (hs : s < 4) (hp : p < nP ρ) (hn : n ≤ 40) {one : Nat} (ho : one < 6) : ∀ t l (σ : ts_S), l + t = 8 → RQ (σ 1) ρ → σ 5 2 s = nI n → (∀ i, i < n → σ 5 3 (40 * s + i) = u (40 * s + i)) → ∃ τ, H_X4_fits_72 (nI s) (nI p) (nI (dD ρ % 6)) (c_ft ρ u s p n (8 * one + l)) (nI one) (nI l) σ = H_X4_fits_62 (nI s) (nI p) (nI (dD ρ % 6)) (c_ft ρ u s p n (8 * one + 8)) (nI (one + 1)) (va_up σ 2 τ)
  | 0, l, σ, e, R, hz, hu => ⟨σ 2, by rw [h_X4_fits_72, if_pos (nI_le (by omega) (by omega)), nI_add, up_id, show l = 8 by omega]⟩
  | t + 1, l, σ, e, R, hz, hu => by
    have hW := WR_ft R.1 (v := 8 * one + l) (by omega)
    have ev : 10 * ((8 * one + l) / 8) + (8 * one + l) % 8 = 10 * one + l := by omega
    obtain ⟨τ, e1, R1⟩ := c_begin σ R
    have R2 := RQ_head R1 (c := 1) (j := dD ρ % 6) (a := 5 + dD ρ % 6) hW (by omega)
    rw [ev] at R2
    have eP : nP (ft ρ (8 * one + l)) = nP ρ := nP_upd (by omega)
    obtain ⟨τ3, e3⟩ := c_told_l (u := u) hW hs (by rw [eP]; exact hp) hn n 0 (va_up σ 2 (qu τ 1 (dD ρ % 6) (nI (10 * one + l)))) (by omega) hz hu (by rw [up_at]; show RQ _ (ft ρ (8 * one + l)); unfold ft; rw [ev]; exact R2)
    rw [up_uu] at e3
    obtain ⟨τ4, e4⟩ := c_fits_i (u := u) hs hp hn ho t (l + 1) (va_up σ 2 τ3) (by omega) R hz hu
    rw [up_uu] at e4
    refine ⟨τ4, ?_⟩
    rw [h_X4_fits_72, if_neg (nI_ge (by omega) (by omega)), e1, bv_s, ck_n _ (by omega) (by omega), nw_s, nI_clamp (by omega), pk_mul, nI_add, qu_up, up_uu, up_at, e_X4_hasAsTold, e3, bi_s, nI_add]
    rw [← e4, show 8 * one + (l + 1) = (8 * one + l) + 1 by omega]
    unfold c_ft
    rw [S_fd]
    by_cases q : P_ft ρ u s p n (8 * one + l)
    · rw [if_pos q, if_neg n10, if_pos q]
    · rw [if_neg q, if_pos rfl, if_neg q]
theorem c_fits_o {ρ u : Nat → Int32} {s p n : Nat} (hs : s < 4) (hp : p < nP ρ) (hn : n ≤ 40) : ∀ t one (σ : ts_S), one + t = 6 → RQ (σ 1) ρ → σ 5 2 s = nI n → (∀ i, i < n → σ 5 3 (40 * s + i) = u (40 * s + i)) → ∃ τ, H_X4_fits_62 (nI s) (nI p) (nI (dD ρ % 6)) (c_ft ρ u s p n (8 * one)) (nI one) σ = some (some (.inl (c_ft ρ u s p n 48)), va_up σ 2 τ)
  | 0, one, σ, e, R, hz, hu => ⟨σ 2, by rw [h_X4_fits_62, if_pos (nI_le (by omega) (by omega)), up_id, show 8 * one = 48 by omega]⟩
  | t + 1, one, σ, e, R, hz, hu => by
    obtain ⟨τ, e1⟩ := c_fits_i (u := u) hs hp hn (show one < 6 by omega) 8 0 σ (by omega) R hz hu
    obtain ⟨τ2, e2⟩ := c_fits_o (u := u) hs hp hn t (one + 1) (va_up σ 2 τ) (by omega) R hz hu
    rw [up_uu] at e2
    refine ⟨τ2, ?_⟩
    rw [← e2, show 8 * (one + 1) = 8 * one + 8 by omega, ← e1, h_X4_fits_62, if_neg (nI_ge (by omega) (by omega))]; rfl
theorem m_fits_l {ρ : Nat → Int32} (W : WR ρ) {s p n : Nat} (hs : s < 4) (p6 : p < 6) (hn : n ≤ 40) (x : Int32) : ∀ t v (σ : ts_S) (y : Int32), v + t = 48 → σ 6 1 = upd ρ (5 + dD ρ % 6) y → σ 6 9 s = nI n → ∃ α, H_X5_fits_42 (nI s) (nI p) x (nI (5 + dD ρ % 6)) (ρ (5 + dD ρ % 6)) (c_ft ρ (σ 6 10) s p n v) (nI v) σ = some (some (.inl (c_ft ρ (σ 6 10) s p n 48)), mr (ma σ α) ρ)
  | 0, v, σ, y, e, h, hz => by
    refine ⟨σ 6 3, ?_⟩
    rw [h_X5_fits_42, if_pos (nI_le (by omega) (by omega)), ck_n _ (by omega) (by omega), nw_s, nI_clamp (by omega), mr_up, h, upd_back, show v = 48 by omega]
    rw [show ma σ (σ 6 3) = σ by unfold ma; rw [up_id, up_id]]
  | t + 1, v, σ, y, e, h, hz => by
    have hW := WR_ft W (v := v) (by omega)
    have e1 := m_isSo hs (px_lt p6 (show 0 < 3 by omega)) hn (mr σ (ft ρ v)) hW hz
    obtain ⟨α, i1⟩ := m_fits_l W hs p6 hn x t (v + 1) (ma (mr σ (ft ρ v)) (cpR (mr σ (ft ρ v) 6 1) (mr σ (ft ρ v) 6 3))) _ (by omega) rfl hz
    rw [mma] at i1
    refine ⟨α, ?_⟩
    have ev : nI v / nI 8 * nI 10 + (nI v - nI v / nI 8 * nI 8) = nI (10 * (v / 8) + v % 8) := by
      rw [pk_rem (by omega) (by omega) (by omega), pk_div (by omega) (by omega) (by omega), pk_mul, nI_add, Nat.mul_comm]
    rw [h_X5_fits_42, if_neg (nI_ge (by omega) (by omega)), ck_n _ (by omega) (by omega), nw_s, nI_clamp (by omega), ev, mr_up, h, upd_uu, m_personAt, bi_s, e1, bi_s, ni_s, ni_s, add_0, nI_add]
    have i2 : H_X5_fits_42 (nI s) (nI p) x (nI (5 + dD ρ % 6)) (ρ (5 + dD ρ % 6)) (c_ft ρ (σ 6 10) s p n (v + 1)) (nI (v + 1)) (ma (mr σ (ft ρ v)) (cpR (mr σ (ft ρ v) 6 1) (mr σ (ft ρ v) 6 3))) = some (some (.inl (c_ft ρ (σ 6 10) s p n 48)), mr (ma σ α) ρ) := i1
    rw [← i2]
    unfold c_ft
    rw [S_fd]
    have f0 : ∀ b, b = P_ft ρ (σ 6 10) s p n v → b = (S_le (Q_so (mr σ (ft ρ v) 6 1) (mr σ (ft ρ v) 6 10) (40 * s) (px p 0)) n 0 = -1) := fun b hb => hb
    by_cases q : P_ft ρ (σ 6 10) s p n v
    · have q' : S_le (Q_so (mr σ (ft ρ v) 6 1) (mr σ (ft ρ v) 6 10) (40 * s) (px p 0)) n 0 = -1 := q
      rw [if_pos q', if_neg n10, if_pos q]
    · have q' : ¬ S_le (Q_so (mr σ (ft ρ v) 6 1) (mr σ (ft ρ v) 6 10) (40 * s) (px p 0)) n 0 = -1 := q
      rw [if_neg q', if_pos rfl, if_neg q]
theorem sim_fits (a1 a2 : Int32) : SIM F_X4_fits F_X5_fits [.inl a1, .inl a2] := by
  intro σ I
  have R := INV_R I
  have W := R.1
  have hP := W.2.2.1
  by_cases h1 : nI 0 ≤ a1 ∧ a1 < nI 4
  · obtain ⟨s, hs, rfl⟩ := in_of (by omega) h1
    obtain ⟨b1, b2, b3, n, hn, bn, bu⟩ := SH_s I hs
    by_cases hm : σ 6 8 s = nI 0
    · obtain ⟨A, e1, σ2, e2, I2⟩ := find5 I
      obtain ⟨x, hx⟩ := mp_x a2 (σ 6 1) W
      apply sim_mk (h3 := I2)
      · rw [e_X4_fits, below_t σ h1, bi_s, if_neg n10, x_missing_t hs σ (by rw [b1]; exact hm), bi_s, if_neg n10, e1, bi_s]
      · rw [e_X5_fits, hx (va_up σ 0 A) rfl, bi_s, m_lacks_m hs x (va_up σ 0 A) hm, bi_s, if_neg c90, e2, bi_s]
    · by_cases h2 : nI 0 ≤ a2 ∧ a2 < nI (nP (σ 6 1))
      · obtain ⟨p, hp, rfl⟩ := in_of (by omega) h2
        have p6 := WR_p6 W hp
        obtain ⟨τ, e1⟩ := c_fits_o (ρ := σ 6 1) (u := σ 6 10) hs hp hn 6 0 σ (by omega) R (by rw [b2]; exact bn) bu
        obtain ⟨α, e2⟩ := m_fits_l (ρ := σ 6 1) W hs p6 hn (nI 0) 48 0 (va_up σ 2 τ) (σ 6 1 (5 + dD (σ 6 1) % 6)) (by omega) (upd_same _ _).symm bn
        rw [mr_ma_id (va_up σ 2 τ) α (σ 6 1) rfl] at e2
        apply sim_mk (σ2 := ma (va_up σ 2 τ) α) (h3 := I)
        · rw [e_X4_fits, below_t σ h1, bi_s, if_neg n10, x_missing_f hs σ (by rw [b1]; exact hm), bi_s, if_pos rfl, c_isPerson_t hq1 σ R h2, bi_s, if_neg n10, c_today hq1 σ R, bi_s]
          exact e1
        · have ep : F_X5_placeNow [.inr (.inr (.inl (6, 0)))] (va_up σ 2 τ) = some (some (.inl (nI (5 + dD (σ 6 1) % 6))), va_up σ 2 τ) := m_placeNow (va_up σ 2 τ) W
          rw [e_X5_fits, mp_t (va_up σ 2 τ) W h2, bi_s, m_lacks_1 hs (va_up σ 2 τ) hm, bi_s, if_pos rfl, ep, bi_s, ck_n _ (by omega) (by omega), ni_s, nI_clamp (by omega)]
          exact e2
      · obtain ⟨A, e1, σ2, e2, I2⟩ := find0 I
        apply sim_mk (h3 := I2)
        · rw [e_X4_fits, below_t σ h1, bi_s, if_neg n10, x_missing_f hs σ (by rw [b1]; exact hm), bi_s, if_pos rfl, c_isPerson_f hq1 σ R h2, bi_s, if_pos rfl, e1, bi_s]
        · rw [e_X5_fits, mp_f (va_up σ 0 A) W h2, bi_s, m_lacks_0 hs (va_up σ 0 A) hm, bi_s, if_neg c95, e2, bi_s]
  · obtain ⟨A, e1, σ2, e2, I2⟩ := find0 I
    obtain ⟨x, hx⟩ := mp_x a2 (σ 6 1) W
    apply sim_mk (h3 := I2)
    · rw [e_X4_fits, below_f σ h1, bi_s, if_pos rfl, e1, bi_s]
    · rw [e_X5_fits, hx (va_up σ 0 A) rfl, bi_s, m_lacks_b _ _ h1, bi_s, if_neg c95, e2, bi_s]
abbrev kd (ρ : Nat → Int32) (i v : Nat) : Nat → Int32 := upd ρ (sx i 0) (nI v)
abbrev P_kd (ρ u : Nat → Int32) (s i n v : Nat) : Prop := S_le (Q_so (kd ρ i v) u (40 * s) (sx i 3)) n 0 = -1
theorem WR_kd {ρ : Nat → Int32} (W : WR ρ) {i v : Nat} (hi : i < nS ρ) (hv : v < 7) : WR (kd ρ i v) := WR_sf W hi (f := 0) (by omega) (fun _ => ⟨v, hv, rfl⟩) (fun h => by omega) (fun h => by omega)
def c_kd (ρ u : Nat → Int32) (s i n : Nat) : Nat → Int32 := S_fd (fun acc v => if P_kd ρ u s i n v then acc ||| (nI 1 <<< (nI v &&& nI 31)) else acc)
theorem c_kinds_l {ρ u : Nat → Int32} {s i n : Nat} (hs : s < 4) (hi : i < nS ρ) (hn : n ≤ 40) : ∀ t v (σ : ts_S), v + t = 7 → RQ (σ 1) ρ → σ 5 2 s = nI n → (∀ i, i < n → σ 5 3 (40 * s + i) = u (40 * s + i)) → ∃ τ, H_X4_kinds_53 (nI s) (nI i) (c_kd ρ u s i n v) (nI v) σ = some (some (.inl (c_kd ρ u s i n 7)), va_up σ 2 τ)
  | 0, v, σ, e, R, hz, hu => ⟨σ 2, by rw [h_X4_kinds_53, if_pos (nI_le (by omega) (by omega)), up_id, show v = 7 by omega]⟩
  | t + 1, v, σ, e, R, hz, hu => by
    have i8 := WR_i8 R.1 hi
    have hW := WR_kd R.1 hi (v := v) (by omega)
    obtain ⟨τ, e1, R1⟩ := c_begin σ R
    have R2 : RQ (qu τ 2 i (nI v)) (kd ρ i v) := RQ_sx R1 hi (f := 0) (by omega) hW
    have eS : nS (kd ρ i v) = nS ρ := nS_upd (by unfold sx; omega)
    obtain ⟨τ3, e3⟩ := c_keeps_l (u := u) hW hs (p := i) (by rw [eS]; exact hi) hn n 0 (va_up σ 2 (qu τ 2 i (nI v))) (by omega) hz hu (by rw [up_at]; exact R2)
    rw [up_uu] at e3
    obtain ⟨τ4, e4⟩ := c_kinds_l (u := u) hs hi hn t (v + 1) (va_up σ 2 τ3) (by omega) R hz hu
    rw [up_uu] at e4
    refine ⟨τ4, ?_⟩
    rw [h_X4_kinds_53, if_neg (nI_ge (by omega) (by omega)), e1, bv_s, ck_n _ (by omega) (by omega), nw_s, nI_clamp (by omega), qu_up, up_uu, up_at, e_X4_keepsAsTold, e3, bi_s, nI_add, ni_s]
    rw [← e4]
    unfold c_kd
    rw [S_fd]
    by_cases q : P_kd ρ u s i n v
    · rw [if_pos q, if_neg n10, if_pos q]
    · rw [if_neg q, if_pos rfl, if_neg q]
theorem m_kinds_l {ρ : Nat → Int32} (W : WR ρ) {s i n : Nat} (hs : s < 4) (hi : i < nS ρ) (hn : n ≤ 40) (x : Int32) : ∀ t v (σ : ts_S) (y : Int32), v + t = 7 → σ 6 1 = upd ρ (sx i 0) y → σ 6 9 s = nI n → ∃ α, H_X5_kinds_43 (nI s) (nI i) x (nI (sx i 0)) (ρ (sx i 0)) (c_kd ρ (σ 6 10) s i n v) (nI v) σ = some (some (.inl (c_kd ρ (σ 6 10) s i n 7)), mr (ma σ α) ρ)
  | 0, v, σ, y, e, h, hz => by
    have i8 := WR_i8 W hi
    have q0 : sx i 0 < 111 := by unfold sx; omega
    refine ⟨σ 6 3, ?_⟩
    rw [h_X5_kinds_43, if_pos (nI_lt (by omega) (by omega)), ck_n _ q0 (by omega), nw_s, nI_clamp (by omega), mr_up, h, upd_back, show v = 7 by omega]
    rw [show ma σ (σ 6 3) = σ by unfold ma; rw [up_id, up_id]]
  | t + 1, v, σ, y, e, h, hz => by
    have i8 := WR_i8 W hi
    have q0 : sx i 0 < 111 := by unfold sx; omega
    have q3 : sx i 3 < 111 := by unfold sx; omega
    have hW := WR_kd W hi (v := v) (by omega)
    have e1 := m_isSo hs q3 hn (mr σ (kd ρ i v)) hW hz
    obtain ⟨α, i1⟩ := m_kinds_l W hs hi hn x t (v + 1) (ma (mr σ (kd ρ i v)) (cpR (mr σ (kd ρ i v) 6 1) (mr σ (kd ρ i v) 6 3))) _ (by omega) rfl hz
    rw [mma] at i1
    refine ⟨α, ?_⟩
    rw [h_X5_kinds_43, if_neg (nI_nlt (by omega) (by omega)), ck_n _ q0 (by omega), nw_s, nI_clamp (by omega), mr_up, h, upd_uu, m_sillAt, bi_s, e1, bi_s, ni_s, ni_s, or_0, nI_add]
    have i2 : H_X5_kinds_43 (nI s) (nI i) x (nI (sx i 0)) (ρ (sx i 0)) (c_kd ρ (σ 6 10) s i n (v + 1)) (nI (v + 1)) (ma (mr σ (kd ρ i v)) (cpR (mr σ (kd ρ i v) 6 1) (mr σ (kd ρ i v) 6 3))) = some (some (.inl (c_kd ρ (σ 6 10) s i n 7)), mr (ma σ α) ρ) := i1
    rw [← i2]
    unfold c_kd
    rw [S_fd]
    by_cases q : P_kd ρ (σ 6 10) s i n v
    · have q' : S_le (Q_so (mr σ (kd ρ i v) 6 1) (mr σ (kd ρ i v) 6 10) (40 * s) (sx i 3)) n 0 = -1 := q
      rw [if_pos q', if_neg n10, if_pos q]
    · have q' : ¬ S_le (Q_so (mr σ (kd ρ i v) 6 1) (mr σ (kd ρ i v) 6 10) (40 * s) (sx i 3)) n 0 = -1 := q
      rw [if_neg q', if_pos rfl, if_neg q]
theorem sim_kinds (a1 a2 : Int32) : SIM F_X4_kinds F_X5_kinds [.inl a1, .inl a2] := by
  intro σ I
  have R := INV_R I
  have W := R.1
  have hS := W.2.1
  by_cases h1 : nI 0 ≤ a1 ∧ a1 < nI 4
  · obtain ⟨s, hs, rfl⟩ := in_of (by omega) h1
    obtain ⟨b1, b2, b3, n, hn, bn, bu⟩ := SH_s I hs
    by_cases hm : σ 6 8 s = nI 0
    · obtain ⟨A, e1, σ2, e2, I2⟩ := find5 I
      obtain ⟨x, hx⟩ := ms_x a2 (σ 6 1) W
      apply sim_mk (h3 := I2)
      · rw [e_X4_kinds, below_t σ h1, bi_s, if_neg n10, x_missing_t hs σ (by rw [b1]; exact hm), bi_s, if_neg n10, e1, bi_s]
      · rw [e_X5_kinds, hx (va_up σ 0 A) rfl, bi_s, m_lacks_m hs x (va_up σ 0 A) hm, bi_s, if_neg c90, e2, bi_s]
    · by_cases h2 : nI 0 ≤ a2 ∧ a2 < nI (nS (σ 6 1))
      · obtain ⟨i, hi, rfl⟩ := in_of (by omega) h2
        have i8 := WR_i8 W hi
        have q0 : sx i 0 < 111 := by unfold sx; omega
        obtain ⟨τ, e1⟩ := c_kinds_l (ρ := σ 6 1) (u := σ 6 10) hs hi hn 7 0 σ (by omega) R (by rw [b2]; exact bn) bu
        obtain ⟨α, e2⟩ := m_kinds_l (ρ := σ 6 1) W hs hi hn (nI 0) 7 0 (va_up σ 2 τ) (σ 6 1 (sx i 0)) (by omega) (upd_same _ _).symm bn
        rw [mr_ma_id (va_up σ 2 τ) α (σ 6 1) rfl] at e2
        apply sim_mk (σ2 := ma (va_up σ 2 τ) α) (h3 := I)
        · rw [e_X4_kinds, below_t σ h1, bi_s, if_neg n10, x_missing_f hs σ (by rw [b1]; exact hm), bi_s, if_pos rfl, c_isSill_t hq1 σ R h2, bi_s, if_neg n10]
          exact e1
        · rw [e_X5_kinds, ms_t (va_up σ 2 τ) W h2, bi_s, m_lacks_1 hs (va_up σ 2 τ) hm, bi_s, if_pos rfl, m_sillAt, bi_s, ck_n _ q0 (by omega), ni_s, nI_clamp (by omega)]
          exact e2
      · obtain ⟨A, e1, σ2, e2, I2⟩ := find0 I
        apply sim_mk (h3 := I2)
        · rw [e_X4_kinds, below_t σ h1, bi_s, if_neg n10, x_missing_f hs σ (by rw [b1]; exact hm), bi_s, if_pos rfl, c_isSill_f hq1 σ R h2, bi_s, if_pos rfl, e1, bi_s]
        · rw [e_X5_kinds, ms_f (va_up σ 0 A) W h2, bi_s, m_lacks_0 hs (va_up σ 0 A) hm, bi_s, if_neg c95, e2, bi_s]
  · obtain ⟨A, e1, σ2, e2, I2⟩ := find0 I
    obtain ⟨x, hx⟩ := ms_x a2 (σ 6 1) W
    apply sim_mk (h3 := I2)
    · rw [e_X4_kinds, below_f σ h1, bi_s, if_pos rfl, e1, bi_s]
    · rw [e_X5_kinds, hx (va_up σ 0 A) rfl, bi_s, m_lacks_b _ _ h1, bi_s, if_neg c95, e2, bi_s]
