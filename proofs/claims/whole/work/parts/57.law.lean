/-! the law's loop -/
def ar (xs : Nat → Int32) (i : Nat) : Nat → Nat → List ts_V
  | 0, _ => []
  | n + 1, k => .inl (xs (i + k)) :: ar xs i n (k + 1)
theorem ar_len (xs : Nat → Int32) (i : Nat) : ∀ n k, (ar xs i n k).length = n
  | 0, _ => rfl
  | n + 1, k => by rw [ar, List.length_cons, ar_len xs i n (k + 1)]
def la_ck : Nat → Nat → Nat → Bool
  | 0, _, _ => true
  | n + 1, k, pc => decide (decode code pc = .ok (.aload_n 0, 1)) && (decide (decode code (pc + 1) = .ok (.iload_n 3, 1)) && (decide (decode code (pc + 1 + 1) = .ok (.iconst (Int.ofNat k), 1)) && (decide (decode code (pc + 1 + 1 + 1) = .ok (.iadd, 1)) && (decide (decode code (pc + 1 + 1 + 1 + 1) = .ok (.iaload, 1)) && la_ck n (k + 1) (pc + 1 + 1 + 1 + 1 + 1)))))
def lk_0 (pc n jx jm : Nat) : Bool := decide (decode code pc = .ok (.aload_n 1, 1)) && (la_ck n 1 (pc + 1) && (decide (decode code (pc + 1 + 5 * n) = .ok (.invokevirtual jx, 3)) && (decide (decode code (pc + 1 + 5 * n + 3) = .ok (.aload_n 2, 1)) && (la_ck n 1 (pc + 1 + 5 * n + 3 + 1) && decide (decode code (pc + 1 + 5 * n + 3 + 1 + 5 * n) = .ok (.invokevirtual jm, 3))))))
def lk_i (pc n jx jm : Nat) (off : Int) : Bool := lk_0 pc n jx jm && (decide (decode code (pc + 1 + 5 * n + 3 + 1 + 5 * n + 3) = .ok (.if_icmp .eq off, 3)) && decide (((pc + 1 + 5 * n + 3 + 1 + 5 * n + 3 : Nat) : Int) + off = 1577))
def lk_l (pc n jx jm : Nat) (off : Int) : Bool := lk_0 pc n jx jm && (decide (decode code (pc + 1 + 5 * n + 3 + 1 + 5 * n + 3) = .ok (.lcmp, 1)) && (decide (decode code (pc + 1 + 5 * n + 3 + 1 + 5 * n + 3 + 1) = .ok (.ifCond .eq off, 3)) && decide (((pc + 1 + 5 * n + 3 + 1 + 5 * n + 3 + 1 : Nat) : Int) + off = 1577)))
theorem ic_n : ∀ k, k < 7 → Int32.ofInt (Int.ofNat k) = nI k := by decide
section LWC
variable {X : ts_X} {p : Program} {l : Launch} {e : Env} {s : State} {m : MethodId} {below : List Frame} {meth : Method} {c : Code} {b L : Nat} {xs : Nat → Int32} {Q : State → Prop}
theorem lw_go {R : Room} {args : Array Value} {pc : Nat} {H : Heap} {locs : List Loc} {ls : Array Slot} {st0 rest : List Value} {r : Option ts_V} {σ1 : ts_S} {a : Array Value} {cells slots : Nat} (hr : va_Run p l e R s m args below meth c H locs cells slots 0 0 (F0 m pc ls st0) rest (ts_Po X r σ1 a) X.2.2.2.2.2.2) (hS : va_S X.2.2.2.2.2.2 s.heap H locs)
    (kk : ∀ (H1 : Heap) (locs1 : List Loc), va_P X.1 ts_vc (ts_ws X σ1) H1 → va_S X.2.2.2.2.2.2 s.heap H1 locs1 → W p l e R s m args below meth c H1 locs1 cells slots Q (F0 m (pc + 3) ls ((r.map (ts_tr X)).toList ++ rest))) : W p l e R s m args below meth c H locs cells slots Q (F0 m pc ls st0) := by
  intro T hT Z
  obtain ⟨v, st₀, t, T', L, h0, Z', hL, e1, e2, ⟨hv, hp, hz, hk⟩, st⟩ := hr T hT Z
  have hv' : v = r.map (ts_tr X) := by injection hv
  subst hv'
  rw [h0] at hz hk
  obtain ⟨t2, a1, b1⟩ := kk T'.heap (locs ++ L) (by rw [e1]; exact hp)
    ⟨Nat.le_trans hS.1 (by rw [e1]; exact hz), fun q h1 h2 => by rw [e1, hk q (Nat.lt_of_lt_of_le h1 hS.1) h2]; exact hS.2.1 q h1 h2, fun q hq => by
      rcases List.mem_append.mp hq with h | h
      · exact hS.2.2 q h
      · exact hL q h⟩ T' rfl Z'
  exact ⟨t2, st t2 a1, b1⟩
set_option maxRecDepth 100000 in
theorem lw_call (C : ts_Cx X p s m #[Value.ref b] meth c code 4 RL lw_tbl) {mi : ts_M} {d : Nat} {S : List ts_V → ts_S → Option ts_A} (hM : ts_Met X l mi d S) (hmw : ts_mw mi) (hd10 : d ≤ 10) {g t : Nat} (ht : mi.2.2.2.2.2 = t) (ht5 : t < 5) (hrc : ∀ as, ts_rc t (.inr (.inr (.inl (g, 0))) :: as) = true) {as : List ts_V} (hn : as.length = mi.2.2.2.2.1) {r : Option ts_V} {σ σ1 : ts_S} (hS' : S (.inr (.inr (.inl (g, 0))) :: as) σ = some (r, σ1)) {j pc : Nat} (hw : Cond.methodLink RL j mi.1 ∈ ts_TB) (hd : decode code pc = .ok (.invokevirtual j, 3)) {rest : List Value} (hsum : (rest.map fun v => v.category).sum ≤ 8) {H : Heap} {locs : List Loc} {ls : Array Slot} (hP : va_P X.1 ts_vc (ts_ws X σ) H) (hS : va_S X.2.2.2.2.2.2 s.heap H locs) (hL : ls.size = 4)
    (kk : ∀ (H1 : Heap) (locs1 : List Loc), va_P X.1 ts_vc (ts_ws X σ1) H1 → va_S X.2.2.2.2.2.2 s.heap H1 locs1 → W p l e room_1 s m #[Value.ref b] below meth c H1 locs1 53 2331 Q (F0 m (pc + 3) ls ((r.map (ts_tr X)).toList ++ rest))) : W p l e room_1 s m #[Value.ref b] below meth c H locs 53 2331 Q (F0 m pc ls ((as.map (ts_tr X)).reverse ++ .ref (X.2.1 g 0) :: rest)) := by
  obtain ⟨⟨hcode, hini⟩, hd1, hmx, hkind⟩ := hmw
  have tb : ∀ w ∈ ts_TB, w.before #[Value.ref b] s = true := fun w hw => C.2.2.2.2.1 w (C.2.2.2.2.2.1 w hw)
  rcases hkind with ⟨e1, -⟩ | ⟨hlt, hcn, hinst, hsel⟩
  · omega
  · obtain ⟨a, hv, cell, hc1, hc2, hc3⟩ := ts_recv C.2.2.2.2.2.2.1 hP hS hlt (v := .inr (.inr (.inl (g, 0)))) (as := as) (by rw [ht]; exact hrc as)
    have ea : a = X.2.1 g 0 := by
      have hv' : Value.ref (X.2.1 g 0) = Value.ref a := hv
      exact (Value.ref.inj hv').symm
    subst ea
    have hMet := hM _ σ r σ1 hS'
    exact lw_go (a := (Value.ref (X.2.1 g 0) :: as.map (ts_tr X)).toArray) (va_runV (C := mi.1.cls) (b := X.2.1 g 0) (As := as.map (ts_tr X)) (rest := rest) (n := mi.2.2.2.2.1) ⟨C.1, C.2.1, C.2.2.1, C.2.2.2.1, C.2.2.2.2.1⟩ hMet
      ⟨callB_of mi.2.2.2.2.1 C.2.2.2.2.1 (ts_good C.2.2.2.2.2.1 hcode) rfl rfl rfl (tb _ hini) (tb _ hw) hd1 ⟨by show d + 1 ≤ 13; omega, by show 8 + (mi.2.2.1 + 11) + 39 * d ≤ 508; omega⟩, tb _ hinst, tb _ hsel⟩
      ⟨ts_blind, ⟨cell, hc1, hc2, by rw [← hcn]; exact hc3⟩, ts_pre C hP hS _⟩ rfl (by rw [List.length_map]; exact hn) hL rfl (lv_room hsum) hd ⟨Nat.le_of_ble_eq_true rfl, Nat.le_of_ble_eq_true rfl⟩) hS kk
set_option maxRecDepth 100000 in
theorem lw_args (C : ts_Cx X p s m #[Value.ref b] meth c code 4 RL lw_tbl) (hX : va_X b L xs s s.heap) (hbl : b < s.heap.size) (hbA : ¬ X.2.2.2.2.2.2 b) {i : Nat} (hi : i + 6 ≤ L) (hL : L ≤ 3072) {H : Heap} {locs : List Loc} {ls : Array Slot} (hS : va_S X.2.2.2.2.2.2 s.heap H locs) (hl : lv_has ls 4 [(0, .ref b), (1, .ref (X.2.1 0 0)), (2, .ref (X.2.1 6 0)), (3, .int (nI i))]) : ∀ (n k pc : Nat) (st : List Value), la_ck n k pc = true → n + k ≤ 6 → W p l e room_1 s m #[Value.ref b] below meth c H locs 53 2331 Q (F0 m (pc + 5 * n) ls (((ar xs i n k).map (ts_tr X)).reverse ++ st)) → W p l e room_1 s m #[Value.ref b] below meth c H locs 53 2331 Q (F0 m pc ls st)
  | 0, k, pc, st, hc, hk, kk => by
    rw [Nat.mul_zero, Nat.add_zero, ar, List.map_nil, List.reverse_nil, List.nil_append] at kk
    exact kk
  | n + 1, k, pc, st, hc, hk, kk => by
    simp only [la_ck, Bool.and_eq_true, decide_eq_true_eq] at hc
    obtain ⟨d0, d1, d2, d3, d4, d5⟩ := hc
    have hx := C.1
    have hb := C.2.1
    refine lv_aload_n hx hb d0 rfl (lv_at hl 0 rfl) ?_
    refine lv_iload_n hx hb d1 rfl (lv_at hl 3 rfl) ?_
    refine lv_iconst (v := nI k) hx hb d2 (ic_n k (by omega)) ?_
    refine lv_iadd hx hb d3 ?_
    rw [nI_add]
    refine va_sld hx hb hX hbl hbA hS (i := nI (i + k)) (show vp_in (nI (i + k)) L from vp_in_nI (by omega) (by omega)) d4 ?_
    rw [nI_clamp (by omega)]
    refine lw_args C hX hbl hbA hi hL hS hl n (k + 1) (pc + 1 + 1 + 1 + 1 + 1) (.int (xs (i + k)) :: st) d5 (by omega) ?_
    have e1 : pc + 5 * (n + 1) = pc + 1 + 1 + 1 + 1 + 1 + 5 * n := by omega
    have e2 : ((ar xs i (n + 1) k).map (ts_tr X)).reverse ++ st = ((ar xs i n (k + 1)).map (ts_tr X)).reverse ++ Value.int (xs (i + k)) :: st := by
      rw [ar, List.map_cons, List.reverse_cons, List.append_assoc]; rfl
    rw [e1, e2] at kk
    exact kk
set_option maxRecDepth 100000 in
theorem lw_two (C : ts_Cx X p s m #[Value.ref b] meth c code 4 RL lw_tbl) (hX : va_X b L xs s s.heap) (hbl : b < s.heap.size) (hbA : ¬ X.2.2.2.2.2.2 b) {i : Nat} (hi : i + 6 ≤ L) (hL : L ≤ 3072) {pc n jx jm : Nat} (ck : lk_0 pc n jx jm = true) (hn : n ≤ 5) {mX mM : ts_M} {dX dM : Nat} {FX FM : List ts_V → ts_S → Option ts_A} (hMX : ts_Met X l mX dX FX) (hMM : ts_Met X l mM dM FM) (wX : ts_mw mX) (wM : ts_mw mM) (h10 : dX ≤ 10 ∧ dM ≤ 10) (kX : mX.2.2.2.2.2 = 3 ∧ mX.2.2.2.2.1 = n) (kM : mM.2.2.2.2.2 = 4 ∧ mM.2.2.2.2.1 = n) (lX : Cond.methodLink RL jx mX.1 ∈ ts_TB) (lM : Cond.methodLink RL jm mM.1 ∈ ts_TB) {σ σ1 σ2 : ts_S} {r : ts_V} (hr : (ts_tr X r).category ≤ 2) (e1 : FX (.inr (.inr (.inl (0, 0))) :: ar xs i n 1) σ = some (some r, σ1)) (e2 : FM (.inr (.inr (.inl (6, 0))) :: ar xs i n 1) σ1 = some (some r, σ2)) {H : Heap} {locs : List Loc} {ls : Array Slot} (hP : va_P X.1 ts_vc (ts_ws X σ) H) (hS : va_S X.2.2.2.2.2.2 s.heap H locs) (hl : lv_has ls 4 [(0, .ref b), (1, .ref (X.2.1 0 0)), (2, .ref (X.2.1 6 0)), (3, .int (nI i))])
    (kk : ∀ (H1 : Heap) (locs1 : List Loc), va_P X.1 ts_vc (ts_ws X σ2) H1 → va_S X.2.2.2.2.2.2 s.heap H1 locs1 → W p l e room_1 s m #[Value.ref b] below meth c H1 locs1 53 2331 Q (F0 m (pc + 1 + 5 * n + 3 + 1 + 5 * n + 3) ls [ts_tr X r, ts_tr X r])) : W p l e room_1 s m #[Value.ref b] below meth c H locs 53 2331 Q (F0 m pc ls []) := by
  simp only [lk_0, Bool.and_eq_true, decide_eq_true_eq] at ck
  obtain ⟨d0, d1, d2, d3, d4, d5⟩ := ck
  have hx := C.1
  have hb := C.2.1
  refine lv_aload_n hx hb d0 rfl (lv_at hl 1 rfl) ?_
  refine lw_args C hX hbl hbA hi hL hS hl n 1 (pc + 1) _ d1 (by omega) ?_
  refine lw_call C hMX wX h10.1 (g := 0) (t := 3) kX.1 (by omega) (fun _ => rfl) (by rw [ar_len, kX.2]) e1 lX d2 (rest := []) (Nat.zero_le _) hP hS hl.1 (fun H1 locs1 hP1 hS1 => ?_)
  refine lv_aload_n hx hb d3 rfl (lv_at hl 2 rfl) ?_
  refine lw_args C hX hbl hbA hi hL hS1 hl n 1 (pc + 1 + 5 * n + 3 + 1) _ d4 (by omega) ?_
  refine lw_call C hMM wM h10.2 (g := 6) (t := 4) kM.1 (by omega) (fun _ => rfl) (by rw [ar_len, kM.2]) e2 lM d5 (rest := [ts_tr X r]) (by show (ts_tr X r).category + 0 ≤ 8; omega) hP1 hS1 hl.1 (fun H2 locs2 hP2 hS2 => ?_)
  exact kk H2 locs2 hP2 hS2
set_option maxRecDepth 100000 in
theorem lw_case (C : ts_Cx X p s m #[Value.ref b] meth c code 4 RL lw_tbl) (hX : va_X b L xs s s.heap) (hbl : b < s.heap.size) (hbA : ¬ X.2.2.2.2.2.2 b) {i : Nat} (hi : i + 6 ≤ L) (hL : L ≤ 3072) {σ : ts_S} (I : INV σ) {H : Heap} {locs : List Loc} {ls : Array Slot} (hP : va_P X.1 ts_vc (ts_ws X σ) H) (hS : va_S X.2.2.2.2.2.2 s.heap H locs) (hl : lv_has ls 4 [(0, .ref b), (1, .ref (X.2.1 0 0)), (2, .ref (X.2.1 6 0)), (3, .int (nI i))])
    (kk : ∀ (σ2 : ts_S) (H1 : Heap) (locs1 : List Loc), INV σ2 → va_P X.1 ts_vc (ts_ws X σ2) H1 → va_S X.2.2.2.2.2.2 s.heap H1 locs1 → W p l e room_1 s m #[Value.ref b] below meth c H1 locs1 53 2331 Q (F0 m 1577 ls []))
    {pc n jx jm : Nat} {off : Int} (ck : lk_i pc n jx jm off = true) (hn : n ≤ 5) {mX mM : ts_M} {dX dM : Nat} {FX FM : List ts_V → ts_S → Option ts_A} (sim : SIM FX FM (ar xs i n 1)) (hMX : ts_Met X l mX dX FX) (hMM : ts_Met X l mM dM FM) (wX : ts_mw mX) (wM : ts_mw mM) (h10 : dX ≤ 10 ∧ dM ≤ 10) (kX : mX.2.2.2.2.2 = 3 ∧ mX.2.2.2.2.1 = n) (kM : mM.2.2.2.2.2 = 4 ∧ mM.2.2.2.2.1 = n) (lX : Cond.methodLink RL jx mX.1 ∈ ts_TB) (lM : Cond.methodLink RL jm mM.1 ∈ ts_TB) : W p l e room_1 s m #[Value.ref b] below meth c H locs 53 2331 Q (F0 m pc ls []) := by
  simp only [lk_i, Bool.and_eq_true, decide_eq_true_eq] at ck
  obtain ⟨d0, d1, d2⟩ := ck
  obtain ⟨r, σ1, σ2, e1, e2, I2⟩ := sim σ I
  refine lw_two C hX hbl hbA hi hL d0 hn hMX hMM wX wM h10 kX kM lX lM (r := .inl r) (Nat.le_of_ble_eq_true rfl) e1 e2 hP hS hl (fun H1 locs1 hP1 hS1 => ?_)
  exact lv_icmp_eq (tgt := 1577) C.1 C.2.1 d1 d2 (fun _ => kk σ2 H1 locs1 I2 hP1 hS1) (fun q => absurd rfl q)
set_option maxRecDepth 100000 in
theorem lw_casel (C : ts_Cx X p s m #[Value.ref b] meth c code 4 RL lw_tbl) (hX : va_X b L xs s s.heap) (hbl : b < s.heap.size) (hbA : ¬ X.2.2.2.2.2.2 b) {i : Nat} (hi : i + 6 ≤ L) (hL : L ≤ 3072) {σ : ts_S} (I : INV σ) {H : Heap} {locs : List Loc} {ls : Array Slot} (hP : va_P X.1 ts_vc (ts_ws X σ) H) (hS : va_S X.2.2.2.2.2.2 s.heap H locs) (hl : lv_has ls 4 [(0, .ref b), (1, .ref (X.2.1 0 0)), (2, .ref (X.2.1 6 0)), (3, .int (nI i))])
    (kk : ∀ (σ2 : ts_S) (H1 : Heap) (locs1 : List Loc), INV σ2 → va_P X.1 ts_vc (ts_ws X σ2) H1 → va_S X.2.2.2.2.2.2 s.heap H1 locs1 → W p l e room_1 s m #[Value.ref b] below meth c H1 locs1 53 2331 Q (F0 m 1577 ls []))
    {pc n jx jm : Nat} {off : Int} (ck : lk_l pc n jx jm off = true) (hn : n ≤ 5) {mX mM : ts_M} {dX dM : Nat} {FX FM : List ts_V → ts_S → Option ts_A} (sim : SIMl FX FM (ar xs i n 1)) (hMX : ts_Met X l mX dX FX) (hMM : ts_Met X l mM dM FM) (wX : ts_mw mX) (wM : ts_mw mM) (h10 : dX ≤ 10 ∧ dM ≤ 10) (kX : mX.2.2.2.2.2 = 3 ∧ mX.2.2.2.2.1 = n) (kM : mM.2.2.2.2.2 = 4 ∧ mM.2.2.2.2.1 = n) (lX : Cond.methodLink RL jx mX.1 ∈ ts_TB) (lM : Cond.methodLink RL jm mM.1 ∈ ts_TB) : W p l e room_1 s m #[Value.ref b] below meth c H locs 53 2331 Q (F0 m pc ls []) := by
  simp only [lk_l, Bool.and_eq_true, decide_eq_true_eq] at ck
  obtain ⟨d0, d1, d2, d3⟩ := ck
  obtain ⟨r, σ1, σ2, e1, e2, I2⟩ := sim σ I
  refine lw_two C hX hbl hbA hi hL d0 hn hMX hMM wX wM h10 kX kM lX lM (r := .inr (.inl r)) (Nat.le_of_ble_eq_true rfl) e1 e2 hP hS hl (fun H1 locs1 hP1 hS1 => ?_)
  refine W.lcmp (x := r) (y := r) C.1 C.2.1 d1 ?_
  have e0 : lg_cmp r r = 0 := by
    unfold lg_cmp
    rw [if_neg (show ¬ r > r by simp), if_pos rfl]
  rw [e0]
  exact lv_if_eq (tgt := 1577) C.1 C.2.1 d2 d3 (fun _ => kk σ2 H1 locs1 I2 hP1 hS1) (fun q => absurd rfl q)
theorem lw_end {L i : Nat} (hL : L ≤ 3072) (hi : i ≤ 4000) : Int32.ofNat L - 6 < nI i ↔ L < i + 6 := by
  by_cases q : 6 ≤ L
  · have e1 : Int32.ofNat L - 6 = nI (L - 6) := pk_sub (a := L) (b := 6) q
    rw [e1, nI_ltI (by omega) (by omega)]
    omega
  · have h0 : ∀ L, L < 6 → Int32.ofNat L - 6 < nI 0 := by decide
    refine ⟨fun _ => by omega, fun _ => Int32.not_le.mp (fun z => absurd (Int32.le_trans (nge (n := i) (by omega)) z) (Int32.not_le.mpr (h0 L (by omega))))⟩
theorem dL_18 : decode code 18 = .ok (.iload_n 3, 1) := by decide +kernel
theorem dL_19 : decode code 19 = .ok (.aload_n 0, 1) := by decide +kernel
theorem dL_20 : decode code 20 = .ok (.arraylength, 1) := by decide +kernel
theorem dL_21 : decode code 21 = .ok (.bipush 6, 2) := by decide +kernel
theorem dL_23 : decode code 23 = .ok (.isub, 1) := by decide +kernel
theorem dL_24 : decode code 24 = .ok (.if_icmp .gt 1559, 3) := by decide +kernel
theorem dL_27 : decode code 27 = .ok (.aload_n 0, 1) := by decide +kernel
theorem dL_28 : decode code 28 = .ok (.iload_n 3, 1) := by decide +kernel
theorem dL_29 : decode code 29 = .ok (.iaload, 1) := by decide +kernel
theorem dL_30 : decode code 30 = .ok (.bipush 63, 2) := by decide +kernel
theorem dL_32 : decode code 32 = .ok (.iand, 1) := by decide +kernel
theorem dL_33 : decode code 33 = .ok (.tableswitch 1544 0 43 #[191, 234, 257, 280, 303, 336, 369, 412, 445, 478, 521, 554, 587, 610, 633, 676, 719, 752, 775, 798, 831, 864, 907, 950, 983, 1016, 1049, 1072, 1116, 1139, 1172, 1185, 1198, 1231, 1264, 1307, 1350, 1413, 1436, 1459, 1472, 1485, 1498, 1521], 191) := by decide +kernel
theorem dL_1577 : decode code 1577 = .ok (.iinc 3 6, 3) := by decide +kernel
theorem dL_1580 : decode code 1580 = .ok (.goto (-1562), 3) := by decide +kernel
theorem dL_1583 : decode code 1583 = .ok (.iconst 1, 1) := by decide +kernel
theorem dL_1584 : decode code 1584 = .ok (.ireturn, 1) := by decide +kernel
end LWC
