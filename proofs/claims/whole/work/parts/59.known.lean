/-! what is known as the law begins -/
def sw : List (String × Nat) := [("TollSills$Kinds", 37), ("TollSills$Kinds", 25), ("TollSills$Kinds", 27), ("TollSills$Kinds", 29), ("TollSills$Kinds", 31), ("TollSills$Kinds", 33), ("TollSills$Kinds", 35), ("TollSills$Tape", 38), ("TollSills$Tape", 47), ("TollSills$Tape", 68), ("TollSills$Tape", 73), ("TollSills$Tape", 92), ("TollSills$Tape", 96)]
def stm (i : Nat) : Term := .string (sw.getD i ("", 0)).1 (sw.getD i ("", 0)).2
def FLT : List Cond := flatC (Jvm.Cond.and given_1 narrow_1)
set_option maxRecDepth 100000 in
theorem st_in : ∀ i, i < 13 → (Cond.exactly (stm i) "java/lang/String" ∈ FLT ∧ Cond.eq (.field (stm i) "java/lang/String" "coder" "B") (.int 0) ∈ FLT ∧ Cond.arrayOf (.field (stm i) "java/lang/String" "value" "[B") .byte ∈ FLT ∧ Cond.eq (.length (.field (stm i) "java/lang/String" "value" "[B")) (.int (Int32.ofNat (ln i))) ∈ FLT ∧ ∀ j, j < ln i → Cond.eq (.elem (.field (stm i) "java/lang/String" "value" "[B") (.int (Int32.ofNat j))) (.int (ch i j)) ∈ FLT) := by decide +kernel
theorem st_all {args : Array Value} {s : State} {A : Nat → Prop} (hfl : ∀ w ∈ FLT, w.before args s = true) (hA : ∀ a : Nat, a < s.heap.size → ¬ A a) : ∃ ad : Nat → Nat × Nat, ∀ i, i < 13 → (stm i).eval args s none [] s = some (.ref (ad i).1) ∧ va_O "java/lang/String" (ad i).1 A s s.heap ∧ va_OF "java/lang/String" "coder" "B" (.int 0) (ad i).1 A s s.heap ∧ va_OF "java/lang/String" "value" "[B" (.ref (ad i).2) (ad i).1 A s s.heap ∧ va_T .byte (ad i).2 (ln i) (fun j => .int (ch i j)) A s s.heap := by
  have h0 : ∀ i : Nat, ∃ q : Nat × Nat, i < 13 → (stm i).eval args s none [] s = some (.ref q.1) ∧ va_O "java/lang/String" q.1 A s s.heap ∧ va_OF "java/lang/String" "coder" "B" (.int 0) q.1 A s s.heap ∧ va_OF "java/lang/String" "value" "[B" (.ref q.2) q.1 A s s.heap ∧ va_T .byte q.2 (ln i) (fun j => .int (ch i j)) A s s.heap := by
    intro i
    by_cases hi : i < 13
    · obtain ⟨hex, hco, har, hle, hel⟩ := st_in i hi
      have l20 := ln_b i hi
      obtain ⟨a, c, cA, kA, q1, q2, q3, q4, q5, q6, -⟩ := Cond.exactly_spec (args := args) (first := s) (o := none) (s := s) (idx := []) (t := stm i) (cls := "java/lang/String") (hfl _ hex)
      obtain ⟨t, ht, hT⟩ := va_Tof (f := fun j => .int (ch i j)) (A := A) (show ln i < 2 ^ 31 by omega) (hfl _ har) (va_eqt (hfl _ hle)) (fun j hj => va_eqt (hfl _ (hel j hj))) hA
      exact ⟨(a, t), fun _ => ⟨q1, ⟨cA, q3, q5, by rw [q6]; exact q2, hA a (Array.getElem?_eq_some_iff.mp q3).1⟩, vk_OFof q1 (va_eqt (hfl _ hco)) hA, vk_OFof q1 ht hA, hT⟩⟩
    · exact ⟨(0, 0), fun h => absurd h hi⟩
  obtain ⟨ad, had⟩ := Classical.axiomOfChoice h0
  exact ⟨ad, had⟩
theorem D_any {X : ts_X} {σ0 : ts_S} (h : va_D X.2.2.2.2.2.2 (ts_ws X σ0)) (σ : ts_S) : va_D X.2.2.2.2.2.2 (ts_ws X σ) := by
  have key : ∀ (k : Nat) (q : Nat × va_E), (ts_ws X σ)[k]? = some q → ∃ q', (ts_ws X σ0)[k]? = some q' ∧ q'.1 = q.1 := by
    intro k q hq
    rw [ts_ws, List.getElem?_map] at hq
    cases hc : ts_cl[k]? with
    | none => rw [hc] at hq; cases hq
    | some z =>
      rw [hc] at hq
      cases hq
      exact ⟨ts_w1 X σ0 z, by rw [ts_ws, List.getElem?_map, hc]; rfl, rfl⟩
  refine ⟨fun i j p q hp hq e => ?_, fun k q hq => ?_⟩
  · obtain ⟨p', hp', ep⟩ := key i p hp
    obtain ⟨q', hq', eq⟩ := key j q hq
    exact h.1 i j p' q' hp' hq' (by rw [ep, eq, e])
  · obtain ⟨q', hq', eq⟩ := key k q hq
    rw [← eq]
    exact h.2 k q' hq' 
theorem eqs_0 : Cond.eq (stm 0) (.string "TollSillsModel" 27) ∈ FLT := by decide +kernel
theorem eqs_1 : Cond.eq (stm 1) (.string "TollSillsModel" 29) ∈ FLT := by decide +kernel
theorem eqs_2 : Cond.eq (stm 2) (.string "TollSillsModel" 31) ∈ FLT := by decide +kernel
theorem eqs_3 : Cond.eq (stm 3) (.string "TollSillsModel" 33) ∈ FLT := by decide +kernel
theorem eqs_4 : Cond.eq (stm 4) (.string "TollSillsModel" 35) ∈ FLT := by decide +kernel
theorem eqs_5 : Cond.eq (stm 5) (.string "TollSillsModel" 37) ∈ FLT := by decide +kernel
theorem eqs_6 : Cond.eq (stm 6) (.string "TollSillsModel" 39) ∈ FLT := by decide +kernel
theorem eqs_7 : Cond.eq (stm 7) (.string "TollSillsModel" 307) ∈ FLT := by decide +kernel
theorem eqs_8 : Cond.eq (stm 8) (.string "TollSillsModel" 312) ∈ FLT := by decide +kernel
theorem eqs_9 : Cond.eq (stm 9) (.string "TollSillsModel" 283) ∈ FLT := by decide +kernel
theorem eqs_10 : Cond.eq (stm 10) (.string "TollSillsModel" 291) ∈ FLT := by decide +kernel
theorem eqs_11 : Cond.eq (stm 11) (.string "TollSillsModel" 296) ∈ FLT := by decide +kernel
theorem eqs_12 : Cond.eq (stm 12) (.string "TollSillsModel" 298) ∈ FLT := by decide +kernel
theorem fl_cs : Cond.eq (.static "java/lang/String" "COMPACT_STRINGS" "Z") (.int 1) ∈ FLT := by decide +kernel
theorem fl_sf : Cond.isRef (.static "jdk/internal/util/Preconditions" "SIOOBE_FORMATTER" "Ljava/util/function/BiFunction;") ∈ FLT := by decide +kernel
set_option maxHeartbeats 4000000 in
set_option maxRecDepth 100000 in
theorem known_start {p : Program} {s : State} {m : MethodId} {meth : Method} {c : Code} {b L : Nat} {xs : Nat → Int32} (C0 : lw_At p s m meth c b L xs) : ∃ (D : va_G) (cA cS : ClassId) (aS aV : Nat → Nat), (∀ adr, ts_Y (D, adr, aS, aV, cA, cS, fun q : Nat => s.heap.size ≤ q) s s.heap) ∧ va_AO "java/lang/String" s ∧ va_Nw (.methodLinkNest RX4 28 yX3_init RX4) s ∧ va_Nw (.methodLinkNest RX4 35 yX2_init RX4) s := by
  obtain ⟨hx, hb, hr, hml, hown, hts, hX, hbl, hlocks, hgv⟩ := id C0
  have hfl : ∀ w ∈ FLT, w.before #[Value.ref b] s = true := flat_of_before _ hgv
  have hA : ∀ a : Nat, a < s.heap.size → ¬ (fun q : Nat => s.heap.size ≤ q) a := fun a h => Nat.not_le.mpr h
  have hin : ∀ k, k < 5 → ∀ w ∈ ts_lw k, w ∈ lw_tbl := fun k h w hw => (List.mem_filter.mp (ts_lw_in h w hw)).1
  obtain ⟨c0, i0, k0⟩ := u_known (C := RX1) (T := TX1) (N := 15) (n := 15) hts (hin 0 (by decide)) (hts (.instantiable RX1 15) (ts_wd_in (q := 1023) (by decide +kernel)))
  obtain ⟨c1, i1, k1⟩ := u_known (C := RX2) (T := TX2) (N := 3) (n := 3) hts (hin 1 (by decide)) (hts (.instantiable RX2 3) (ts_wd_in (q := 1122) (by decide +kernel)))
  obtain ⟨c2, i2, k2⟩ := u_known (C := RX3) (T := TX3) (N := 6) (n := 6) hts (hin 2 (by decide)) (hts (.instantiable RX3 6) (ts_wd_in (q := 1096) (by decide +kernel)))
  obtain ⟨c3, i3, k3⟩ := u_known (C := RX4) (T := TX4) (N := 7) (n := 7) hts (hin 3 (by decide)) (hts (.instantiable RX4 7) (ts_wd_in (q := 1015) (by decide +kernel)))
  obtain ⟨c4, i4, k4⟩ := u_known (C := RX5) (T := TX5) (N := 21) (n := 21) hts (hin 4 (by decide)) (hts (.instantiable RX5 21) (ts_wd_in (q := 3210) (by decide +kernel)))
  obtain ⟨cA, kA, comp, f1, f2, f3⟩ := Cond.arrayClass_spec (hts (.arrayClass .int) (ts_wd_in (q := 1094) (by decide +kernel)))
  have hAO : va_AO "java/lang/String" s := va_AO.of (hts (.arrayOver (.object "java/lang/String")) (ts_wd_in (q := 3216) (by decide +kernel)))
  obtain ⟨comp2, cS, kS, g1, -, g3, g4, g5⟩ := Cond.arrayOver_spec (hts (.arrayOver (.object "java/lang/String")) (ts_wd_in (q := 3216) (by decide +kernel)))
  obtain ⟨ad, had⟩ := st_all (A := fun q : Nat => s.heap.size ≤ q) hfl hA
  refine ⟨(fun k => [c0, c1, c2, c3, c4].getD k c0, fun k => [i0, i1, i2, i3, i4].getD k i0), cA, cS, fun i => (ad i).1, fun i => (ad i).2, fun adr => ⟨⟨?_, ?_⟩, fun i hi => (had i hi).2, ?_, va_Nw.of rfl (hts (ts_nst) (ts_wd_in (q := 1204) (by decide +kernel))), ?_, ?_⟩, hAO, va_Nw.of rfl (hts (.methodLinkNest RX4 28 yX3_init RX4) (ts_wd_in (q := 1097) (by decide +kernel))), va_Nw.of rfl (hts (.methodLinkNest RX4 35 yX2_init RX4) (ts_wd_in (q := 1123) (by decide +kernel)))⟩
  · intro k q hq
    match k, hq with
    | 0, hq => cases hq; exact k0
    | 1, hq => cases hq; exact k1
    | 2, hq => cases hq; exact k2
    | 3, hq => cases hq; exact k3
    | 4, hq => cases hq; exact k4
    | k + 5, hq => simp [ts_vc] at hq
  · intro k q hq
    match k, hq with
    | 0, hq => cases hq; exact ⟨fun n z => ⟨fun k h => (by cases h), kA, f2, comp, f3⟩, f1⟩
    | 1, hq => cases hq; exact ⟨fun n z => ⟨fun k h => (by cases h), kS, g3, comp2, g4⟩, kS, comp2, g3, g4, g1, g5⟩
    | k + 2, hq => simp [ts_tys] at hq
  · exact List.forall_mem_cons.mpr ⟨vk_R.of (hts (.stringRef "TollSills$Kinds" 37 "sill") (ts_wd_in (q := 3114) (by decide +kernel))) ((had 0 (by decide)).1), List.forall_mem_cons.mpr ⟨vk_R.of (hts (.stringRef "TollSills$Kinds" 25 "church") (ts_wd_in (q := 3108) (by decide +kernel))) ((had 1 (by decide)).1), List.forall_mem_cons.mpr ⟨vk_R.of (hts (.stringRef "TollSills$Kinds" 27 "saloon") (ts_wd_in (q := 3109) (by decide +kernel))) ((had 2 (by decide)).1), List.forall_mem_cons.mpr ⟨vk_R.of (hts (.stringRef "TollSills$Kinds" 29 "poor") (ts_wd_in (q := 3110) (by decide +kernel))) ((had 3 (by decide)).1), List.forall_mem_cons.mpr ⟨vk_R.of (hts (.stringRef "TollSills$Kinds" 31 "inn") (ts_wd_in (q := 3111) (by decide +kernel))) ((had 4 (by decide)).1), List.forall_mem_cons.mpr ⟨vk_R.of (hts (.stringRef "TollSills$Kinds" 33 "bare") (ts_wd_in (q := 3112) (by decide +kernel))) ((had 5 (by decide)).1), List.forall_mem_cons.mpr ⟨vk_R.of (hts (.stringRef "TollSills$Kinds" 35 "marble") (ts_wd_in (q := 3113) (by decide +kernel))) ((had 6 (by decide)).1), List.forall_mem_cons.mpr ⟨vk_R.of (hts (.stringRef "TollSills$Tape" 38 "person") (ts_wd_in (q := 3033) (by decide +kernel))) ((had 7 (by decide)).1), List.forall_mem_cons.mpr ⟨vk_R.of (hts (.stringRef "TollSills$Tape" 47 "cross") (ts_wd_in (q := 3097) (by decide +kernel))) ((had 8 (by decide)).1), List.forall_mem_cons.mpr ⟨vk_R.of (hts (.stringRef "TollSills$Tape" 68 "keeps") (ts_wd_in (q := 3121) (by decide +kernel))) ((had 9 (by decide)).1), List.forall_mem_cons.mpr ⟨vk_R.of (hts (.stringRef "TollSills$Tape" 73 "mended") (ts_wd_in (q := 3127) (by decide +kernel))) ((had 10 (by decide)).1), List.forall_mem_cons.mpr ⟨vk_R.of (hts (.stringRef "TollSills$Tape" 92 "has") (ts_wd_in (q := 3091) (by decide +kernel))) ((had 11 (by decide)).1), List.forall_mem_cons.mpr ⟨vk_R.of (hts (.stringRef "TollSills$Tape" 96 "in") (ts_wd_in (q := 3096) (by decide +kernel))) ((had 12 (by decide)).1), List.forall_mem_cons.mpr ⟨vk_R.of (hts (.stringRef "TollSillsModel" 27 "sill") (ts_wd_in (q := 3217) (by decide +kernel))) (va_eqR (t := stm 0) (u := .string "TollSillsModel" 27) (hfl _ eqs_0) (had 0 (by decide)).1), List.forall_mem_cons.mpr ⟨vk_R.of (hts (.stringRef "TollSillsModel" 29 "church") (ts_wd_in (q := 3218) (by decide +kernel))) (va_eqR (t := stm 1) (u := .string "TollSillsModel" 29) (hfl _ eqs_1) (had 1 (by decide)).1), List.forall_mem_cons.mpr ⟨vk_R.of (hts (.stringRef "TollSillsModel" 31 "saloon") (ts_wd_in (q := 3219) (by decide +kernel))) (va_eqR (t := stm 2) (u := .string "TollSillsModel" 31) (hfl _ eqs_2) (had 2 (by decide)).1), List.forall_mem_cons.mpr ⟨vk_R.of (hts (.stringRef "TollSillsModel" 33 "poor") (ts_wd_in (q := 3220) (by decide +kernel))) (va_eqR (t := stm 3) (u := .string "TollSillsModel" 33) (hfl _ eqs_3) (had 3 (by decide)).1), List.forall_mem_cons.mpr ⟨vk_R.of (hts (.stringRef "TollSillsModel" 35 "inn") (ts_wd_in (q := 3221) (by decide +kernel))) (va_eqR (t := stm 4) (u := .string "TollSillsModel" 35) (hfl _ eqs_4) (had 4 (by decide)).1), List.forall_mem_cons.mpr ⟨vk_R.of (hts (.stringRef "TollSillsModel" 37 "bare") (ts_wd_in (q := 3222) (by decide +kernel))) (va_eqR (t := stm 5) (u := .string "TollSillsModel" 37) (hfl _ eqs_5) (had 5 (by decide)).1), List.forall_mem_cons.mpr ⟨vk_R.of (hts (.stringRef "TollSillsModel" 39 "marble") (ts_wd_in (q := 3223) (by decide +kernel))) (va_eqR (t := stm 6) (u := .string "TollSillsModel" 39) (hfl _ eqs_6) (had 6 (by decide)).1), List.forall_mem_cons.mpr ⟨vk_R.of (hts (.stringRef "TollSillsModel" 307 "person") (ts_wd_in (q := 5172) (by decide +kernel))) (va_eqR (t := stm 7) (u := .string "TollSillsModel" 307) (hfl _ eqs_7) (had 7 (by decide)).1), List.forall_mem_cons.mpr ⟨vk_R.of (hts (.stringRef "TollSillsModel" 312 "cross") (ts_wd_in (q := 5179) (by decide +kernel))) (va_eqR (t := stm 8) (u := .string "TollSillsModel" 312) (hfl _ eqs_8) (had 8 (by decide)).1), List.forall_mem_cons.mpr ⟨vk_R.of (hts (.stringRef "TollSillsModel" 283 "keeps") (ts_wd_in (q := 5162) (by decide +kernel))) (va_eqR (t := stm 9) (u := .string "TollSillsModel" 283) (hfl _ eqs_9) (had 9 (by decide)).1), List.forall_mem_cons.mpr ⟨vk_R.of (hts (.stringRef "TollSillsModel" 291 "mended") (ts_wd_in (q := 5171) (by decide +kernel))) (va_eqR (t := stm 10) (u := .string "TollSillsModel" 291) (hfl _ eqs_10) (had 10 (by decide)).1), List.forall_mem_cons.mpr ⟨vk_R.of (hts (.stringRef "TollSillsModel" 296 "has") (ts_wd_in (q := 5177) (by decide +kernel))) (va_eqR (t := stm 11) (u := .string "TollSillsModel" 296) (hfl _ eqs_11) (had 11 (by decide)).1), List.forall_mem_cons.mpr ⟨vk_R.of (hts (.stringRef "TollSillsModel" 298 "in") (ts_wd_in (q := 5178) (by decide +kernel))) (va_eqR (t := stm 12) (u := .string "TollSillsModel" 298) (hfl _ eqs_12) (had 12 (by decide)).1), fun _ h => absurd h List.not_mem_nil⟩⟩⟩⟩⟩⟩⟩⟩⟩⟩⟩⟩⟩⟩⟩⟩⟩⟩⟩⟩⟩⟩⟩⟩⟩⟩
  · exact va_Zof (hts (.laysStatic "java/lang/String" "COMPACT_STRINGS" "Z") (ts_wd_in (q := 3047) (by decide +kernel))) (hts (.initialized "java/lang/String") (ts_wd_in (q := 1010) (by decide +kernel))) (va_eqi (hfl (.eq (.static "java/lang/String" "COMPACT_STRINGS" "Z") (.int 1)) fl_cs)) hA
  · exact va_Zqof (hts (.laysStatic "jdk/internal/util/Preconditions" "SIOOBE_FORMATTER" "Ljava/util/function/BiFunction;") (ts_wd_in (q := 3063) (by decide +kernel))) (hts (.initialized "jdk/internal/util/Preconditions") (ts_wd_in (q := 1012) (by decide +kernel))) (hfl (.isRef (.static "jdk/internal/util/Preconditions" "SIOOBE_FORMATTER" "Ljava/util/function/BiFunction;")) fl_sf) hA
/-! the first state -/
def s0 (f1 f2 f3 f : Nat → Int32) : ts_S := fun g c => (([[z0, z0], [fun j => if j = 3 then 1 else 0, z0, z0, z0, z0, z0, z0, z0, z0, z0, f1], [fun j => if j = 3 then 1 else 0, z0, z0, z0, z0, z0, z0, z0, z0, z0, f2], [fun j => if j = 3 then 1 else 0, z0, z0, z0, z0, z0, z0, z0, z0, z0, f3], [z0, z0], [z0, z0, z0, z0], [z0, f, z0, z0, z0, z0, z0, z0, z0, z0, z0, z0]] : List (List (Nat → Int32))).getD g []).getD c z0
theorem INV_0 {f1 f2 f3 f : Nat → Int32} (h1 : ∀ j, j < 10 → f1 j = -1) (hs : ∀ j, j < 10 → f (11 + j) = -1) (hf : ∀ j, j < 11 → f j = upd z0 2 1 j) : INV (s0 f1 f2 f3 f) := by
  have g0 : f 0 = nI 0 := hf 0 (by omega)
  have g1 : f 1 = nI 0 := hf 1 (by omega)
  have g2 : f 2 = nI 1 := hf 2 (by omega)
  have g3 : f 3 = nI 0 := hf 3 (by omega)
  have g4 : f 4 = nI 0 := hf 4 (by omega)
  have gl : ∀ i, i < 6 → f (5 + i) = nI 0 := fun i hi => by
    rw [hf (5 + i) (by omega), upd_ne _ _ (by omega)]; rfl
  have nS0 : nS f = 0 := by unfold nS; rw [g1]; rfl
  have nP0 : nP f = 0 := by unfold nP; rw [g3]; rfl
  have W : WR f := by
    refine ⟨⟨0, by omega, g0⟩, ⟨by rw [nS0]; exact g1, by omega⟩, ⟨by rw [nP0]; exact g3, by omega⟩, ⟨0, by omega, g4⟩, fun i hi => ⟨0, 0, by omega, by omega, gl i hi⟩, fun i hi => Or.inl (hs i hi), fun i hi => by omega, fun p hp => by omega⟩
  have R : RQ (s0 f1 f2 f3 f 1) f := by
    refine ⟨W, ⟨g0.symm, g1.symm, g2.symm, g3.symm, g4.symm⟩, fun i hi => (gl i hi).symm, fun i hi => (h1 i hi).trans (hs i hi).symm, fun i hi => by omega, fun p hp => by omega⟩
  have F : FN (s0 f1 f2 f3 f 0 1) (s0 f1 f2 f3 f 6 4) := ⟨fun k hk => rfl, (show (0 : Int32) = 0 + 0 + 0 + 0 + 0 + 0 + 0 by decide)⟩
  have M : IM (s0 f1 f2 f3 f 0 0 3) (s0 f1 f2 f3 f 6 0 3) (s0 f1 f2 f3 f 3) (s0 f1 f2 f3 f 6 2) := ⟨rfl, Or.inl rfl, fun q => absurd q (show ¬ nI 0 = nI 1 by decide)⟩
  have T : TP (s0 f1 f2 f3 f 4 0 1) (s0 f1 f2 f3 f 6 0 6) (s0 f1 f2 f3 f 4 1) (s0 f1 f2 f3 f 6 5) := ⟨rfl, 0, by omega, rfl, fun i hi => by omega⟩
  have Hh : SH (s0 f1 f2 f3 f 5) (s0 f1 f2 f3 f 6 8) (s0 f1 f2 f3 f 6 9) (s0 f1 f2 f3 f 6 10) := fun q hq => ⟨rfl, rfl, Or.inl rfl, 0, by omega, rfl, fun i hi => by omega⟩
  exact ⟨F, R, M, T, Hh⟩
