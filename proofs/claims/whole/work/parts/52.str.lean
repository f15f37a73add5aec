/-! String.length(), String.charAt(int): contracts by the kit's rows -/
theorem dJ0_length_8abf5_0 : decode cJ0_length_8abf5 0 = .ok (.aload_n 0, 1) := by decide +kernel
theorem dJ0_length_8abf5_1 : decode cJ0_length_8abf5 1 = .ok (.getfield 9, 3) := by decide +kernel
theorem dJ0_length_8abf5_4 : decode cJ0_length_8abf5 4 = .ok (.arraylength, 1) := by decide +kernel
theorem dJ0_length_8abf5_5 : decode cJ0_length_8abf5 5 = .ok (.aload_n 0, 1) := by decide +kernel
theorem dJ0_length_8abf5_6 : decode cJ0_length_8abf5 6 = .ok (.invokevirtual 335, 3) := by decide +kernel
theorem dJ0_length_8abf5_9 : decode cJ0_length_8abf5 9 = .ok (.ishr, 1) := by decide +kernel
theorem dJ0_length_8abf5_10 : decode cJ0_length_8abf5 10 = .ok (.ireturn, 1) := by decide +kernel
theorem dJ0_charAt_5068e_0 : decode cJ0_charAt_5068e 0 = .ok (.aload_n 0, 1) := by decide +kernel
theorem dJ0_charAt_5068e_1 : decode cJ0_charAt_5068e 1 = .ok (.invokevirtual 492, 3) := by decide +kernel
theorem dJ0_charAt_5068e_4 : decode cJ0_charAt_5068e 4 = .ok (.ifCond .eq 12, 3) := by decide +kernel
theorem dJ0_charAt_5068e_7 : decode cJ0_charAt_5068e 7 = .ok (.aload_n 0, 1) := by decide +kernel
theorem dJ0_charAt_5068e_8 : decode cJ0_charAt_5068e 8 = .ok (.getfield 9, 3) := by decide +kernel
theorem dJ0_charAt_5068e_11 : decode cJ0_charAt_5068e 11 = .ok (.iload_n 1, 1) := by decide +kernel
theorem dJ0_charAt_5068e_12 : decode cJ0_charAt_5068e 12 = .ok (.invokestatic 495, 3) := by decide +kernel
theorem dJ0_charAt_5068e_15 : decode cJ0_charAt_5068e 15 = .ok (.ireturn, 1) := by decide +kernel
theorem dJ0_coder_7d493_0 : decode cJ0_coder_7d493 0 = .ok (.getstatic 38, 3) := by decide +kernel
theorem dJ0_coder_7d493_3 : decode cJ0_coder_7d493 3 = .ok (.ifCond .eq 10, 3) := by decide +kernel
theorem dJ0_coder_7d493_6 : decode cJ0_coder_7d493 6 = .ok (.aload_n 0, 1) := by decide +kernel
theorem dJ0_coder_7d493_7 : decode cJ0_coder_7d493 7 = .ok (.getfield 15, 3) := by decide +kernel
theorem dJ0_coder_7d493_10 : decode cJ0_coder_7d493 10 = .ok (.goto 4, 3) := by decide +kernel
theorem dJ0_coder_7d493_14 : decode cJ0_coder_7d493 14 = .ok (.ireturn, 1) := by decide +kernel
theorem dJ0_isLatin1_aae02_0 : decode cJ0_isLatin1_aae02 0 = .ok (.getstatic 38, 3) := by decide +kernel
theorem dJ0_isLatin1_aae02_3 : decode cJ0_isLatin1_aae02 3 = .ok (.ifCond .eq 14, 3) := by decide +kernel
theorem dJ0_isLatin1_aae02_6 : decode cJ0_isLatin1_aae02 6 = .ok (.aload_n 0, 1) := by decide +kernel
theorem dJ0_isLatin1_aae02_7 : decode cJ0_isLatin1_aae02 7 = .ok (.getfield 15, 3) := by decide +kernel
theorem dJ0_isLatin1_aae02_10 : decode cJ0_isLatin1_aae02 10 = .ok (.ifCond .ne 7, 3) := by decide +kernel
theorem dJ0_isLatin1_aae02_13 : decode cJ0_isLatin1_aae02 13 = .ok (.iconst 1, 1) := by decide +kernel
theorem dJ0_isLatin1_aae02_14 : decode cJ0_isLatin1_aae02 14 = .ok (.goto 4, 3) := by decide +kernel
theorem dJ0_isLatin1_aae02_18 : decode cJ0_isLatin1_aae02 18 = .ok (.ireturn, 1) := by decide +kernel
theorem dJ0_checkIndex_df160_0 : decode cJ0_checkIndex_df160 0 = .ok (.iload_n 0, 1) := by decide +kernel
theorem dJ0_checkIndex_df160_1 : decode cJ0_checkIndex_df160 1 = .ok (.iload_n 1, 1) := by decide +kernel
theorem dJ0_checkIndex_df160_2 : decode cJ0_checkIndex_df160 2 = .ok (.getstatic 1053, 3) := by decide +kernel
theorem dJ0_checkIndex_df160_5 : decode cJ0_checkIndex_df160 5 = .ok (.invokestatic 1059, 3) := by decide +kernel
theorem dJ0_checkIndex_df160_8 : decode cJ0_checkIndex_df160 8 = .ok (.pop, 1) := by decide +kernel
theorem dJ0_checkIndex_df160_9 : decode cJ0_checkIndex_df160 9 = .ok (.return_, 1) := by decide +kernel
theorem dJ1_charAt_3b067_0 : decode cJ1_charAt_3b067 0 = .ok (.iload_n 1, 1) := by decide +kernel
theorem dJ1_charAt_3b067_1 : decode cJ1_charAt_3b067 1 = .ok (.aload_n 0, 1) := by decide +kernel
theorem dJ1_charAt_3b067_2 : decode cJ1_charAt_3b067 2 = .ok (.arraylength, 1) := by decide +kernel
theorem dJ1_charAt_3b067_3 : decode cJ1_charAt_3b067 3 = .ok (.invokestatic 9, 3) := by decide +kernel
theorem dJ1_charAt_3b067_6 : decode cJ1_charAt_3b067 6 = .ok (.aload_n 0, 1) := by decide +kernel
theorem dJ1_charAt_3b067_7 : decode cJ1_charAt_3b067 7 = .ok (.iload_n 1, 1) := by decide +kernel
theorem dJ1_charAt_3b067_8 : decode cJ1_charAt_3b067 8 = .ok (.baload, 1) := by decide +kernel
theorem dJ1_charAt_3b067_9 : decode cJ1_charAt_3b067 9 = .ok (.sipush 255, 3) := by decide +kernel
theorem dJ1_charAt_3b067_12 : decode cJ1_charAt_3b067 12 = .ok (.iand, 1) := by decide +kernel
theorem dJ1_charAt_3b067_13 : decode cJ1_charAt_3b067 13 = .ok (.i2c, 1) := by decide +kernel
theorem dJ1_charAt_3b067_14 : decode cJ1_charAt_3b067 14 = .ok (.ireturn, 1) := by decide +kernel
theorem dJ3_checkIndex_8e157_0 : decode cJ3_checkIndex_8e157 0 = .ok (.iload_n 0, 1) := by decide +kernel
theorem dJ3_checkIndex_8e157_1 : decode cJ3_checkIndex_8e157 1 = .ok (.ifCond .lt 8, 3) := by decide +kernel
theorem dJ3_checkIndex_8e157_4 : decode cJ3_checkIndex_8e157 4 = .ok (.iload_n 0, 1) := by decide +kernel
theorem dJ3_checkIndex_8e157_5 : decode cJ3_checkIndex_8e157 5 = .ok (.iload_n 1, 1) := by decide +kernel
theorem dJ3_checkIndex_8e157_6 : decode cJ3_checkIndex_8e157 6 = .ok (.if_icmp .lt 10, 3) := by decide +kernel
theorem dJ3_checkIndex_8e157_16 : decode cJ3_checkIndex_8e157 16 = .ok (.iload_n 0, 1) := by decide +kernel
theorem dJ3_checkIndex_8e157_17 : decode cJ3_checkIndex_8e157 17 = .ok (.ireturn, 1) := by decide +kernel
def mJ_coder : ts_M := (yJ0_coder_7d493, cJ0_coder_7d493, 1, some .byte, 0, 8)
def mJ_latin : ts_M := (yJ0_isLatin1_aae02, cJ0_isLatin1_aae02, 1, some .boolean, 0, 8)
def mJ_chk0 : ts_M := (yJ0_checkIndex_df160, cJ0_checkIndex_df160, 2, none, 2, 9)
def mJ_chk3 : ts_M := (yJ3_checkIndex_8e157, cJ3_checkIndex_8e157, 3, some .int, 3, 9)
def mJ_char1 : ts_M := (yJ1_charAt_3b067, cJ1_charAt_3b067, 2, some .char, 2, 9)
theorem mwJ_coder : ts_mw mJ_coder := ts_mw_of (q1 := 3045) (q2 := 1010) (q3 := 3043) (q4 := 3044) (by decide +kernel)
theorem mwJ_latin : ts_mw mJ_latin := ts_mw_of (q1 := 3055) (q2 := 1010) (q3 := 3053) (q4 := 3054) (by decide +kernel)
theorem mwJ_chk0 : ts_mw mJ_chk0 := ts_mw_of (q1 := 3061) (q2 := 1010) (q3 := 3060) (q4 := 0) (by decide +kernel)
theorem mwJ_chk3 : ts_mw mJ_chk3 := ts_mw_of (q1 := 3066) (q2 := 1012) (q3 := 3065) (q4 := 0) (by decide +kernel)
theorem mwJ_char1 : ts_mw mJ_char1 := ts_mw_of (q1 := 3058) (q2 := 1011) (q3 := 3057) (q4 := 0) (by decide +kernel)
def sk_Met (X : ts_X) (l : Launch) (mi : ts_M) (d : Nat) (vs : List Value) (σ : ts_S) (r : Option ts_V) : Prop := Met l mi.1 (ts_wl mi) (ts_room d) (va_Pc vs (ts_Pr X σ)) (ts_Po X r σ) 0 0 X.2.2.2.2.2.2
section SKM
variable {X : ts_X} {p : Program} {l : Launch} {e : Env} {s : State} {m : MethodId} {args : Array Value} {below : List Frame} {meth : Method} {c : Code} {cc : ByteArray} {nL : Nat} {own : String} {Ts : List Cond} {Q : State → Prop} {pc : Nat} {σ : ts_S}
theorem sk_of (mi0 : ts_M) (d : Nat) (vs : List Value) {r : Option ts_V} (hpl : plainFor mi0.1 = true) (hD : ∀ σ, va_D X.2.2.2.2.2.2 (ts_ws X σ)) (hlen : (lg_sl vs).length ≤ mi0.2.2.1)
    (body : ∀ (p : Program) (e : Env) (s : State) (m : MethodId) (below : List Frame) (meth : Method) (c : Code) (ls : Array Slot), ts_Cx X p s m vs.toArray meth c mi0.2.1 mi0.2.2.1 mi0.1.cls (ts_wl mi0) → meth.sig.returnType = mi0.2.2.2.1 → lv_has ls mi0.2.2.1 (lv_args 0 vs) → va_P X.1 ts_vc (ts_ws X σ) s.heap → W p l e (ts_room d) s m vs.toArray below meth c s.heap [] 0 0 (MQ below (ts_Po X r σ) vs.toArray s 0 0 X.2.2.2.2.2.2) (F0 m 0 ls [])) : sk_Met X l mi0 d vs σ r := by
  refine ts_ofW (cc := mi0.2.1) (maxL := mi0.2.2.1) (ret := mi0.2.2.2.1) hpl rfl ?_
  intro p e s m args below meth c s₁ B hml hv
  obtain ⟨rfl, hP, hY⟩ := hv
  have C : ts_Cx X p s m vs.toArray meth c mi0.2.1 mi0.2.2.1 mi0.1.cls (ts_wl mi0) := ⟨B.exec, B.bytes, hml, findClass_of_methodNamed B.named, atoms_spec (ws := ts_wl mi0) B.pre, fun w hw => List.mem_cons_of_mem _ hw, hY, hD, B.notSynchronized⟩
  rw [lg_entry_eq]
  exact body p e s m below meth c _ C B.returns (lv_entry vs hlen) hP
theorem sk_stat {d d' : Nat} (C : ts_Cx X p s m args meth c cc nL own Ts) {mi : ts_M} {vs : List Value} {r : Option ts_V} (hM : sk_Met X l mi d' vs σ r) (hdd : d' < d) (hmw : ts_mw mi) (ht : mi.2.2.2.2.2 = 9) (hn : vs.length = mi.2.2.2.2.1) {j : Nat} (hw : Cond.methodLink own j mi.1 ∈ ts_TB) (hd : decode cc pc = .ok (.invokestatic j, 3)) {rest : List ts_V} (hsum : ts_sum rest ≤ 8) {H : Heap} {locs : List Loc} {ls : Array Slot} (hP : va_P X.1 ts_vc (ts_ws X σ) H) (hS : va_S X.2.2.2.2.2.2 s.heap H locs) (hL : ls.size = nL)
    (kk : ∀ (H1 : Heap) (locs1 : List Loc), va_P X.1 ts_vc (ts_ws X σ) H1 → va_S X.2.2.2.2.2.2 s.heap H1 locs1 → W p l e (ts_room d) s m args below meth c H1 locs1 0 0 Q (F0 m (pc + 3) ls ((ts_psh r rest).map (ts_tr X)))) : W p l e (ts_room d) s m args below meth c H locs 0 0 Q (F0 m pc ls (vs.reverse ++ rest.map (ts_tr X))) := by
  obtain ⟨⟨hcode, hini⟩, hd1, hmx, hkind⟩ := hmw
  have tb : ∀ w ∈ ts_TB, w.before args s = true := fun w hw => C.2.2.2.2.1 w (C.2.2.2.2.2.1 w hw)
  rcases hkind with ⟨-, hstat⟩ | ⟨hlt, -⟩
  · exact ts_go (a := vs.toArray) (rest := rest) (va_runS (As := vs) (rest := rest.map (ts_tr X)) (n := mi.2.2.2.2.1) ⟨C.1, C.2.1, C.2.2.1, C.2.2.2.1, C.2.2.2.2.1⟩ hM
      ⟨callB_of mi.2.2.2.2.1 C.2.2.2.2.1 (ts_good C.2.2.2.2.2.1 hcode) rfl rfl rfl (tb _ hini) (tb _ hw) hd1 (ts_fit hdd hmx), tb _ hstat⟩
      ⟨ts_blind, ts_pre C hP hS _⟩ rfl hn hL rfl (lv_room (by rw [ts_sum_map]; exact hsum)) hd ⟨Nat.le_refl _, Nat.le_refl _⟩) hS kk
  · omega
theorem sk_virt {d d' : Nat} (C : ts_Cx X p s m args meth c cc nL own Ts) {mi : ts_M} {a : Nat} {As : List Value} {r : Option ts_V} (hM : sk_Met X l mi d' (.ref a :: As) σ r) (hdd : d' < d) (hmw : ts_mw mi) (ht : ¬ mi.2.2.2.2.2 = 9) (hn : As.length = mi.2.2.2.2.1) {j : Nat} (hw : Cond.methodLink own j mi.1 ∈ ts_TB) (hd : decode cc pc = .ok (.invokevirtual j, 3)) {rest : List ts_V} (hsum : ts_sum rest ≤ 8) {H : Heap} {locs : List Loc} {ls : Array Slot} (hP : va_P X.1 ts_vc (ts_ws X σ) H) (hS : va_S X.2.2.2.2.2.2 s.heap H locs) (hL : ls.size = nL) (hrc : ∃ cell : Cell, H[a]? = some cell ∧ cell.vm.isStatics = false ∧ s.vm.findClass mi.1.cls = some cell.cls)
    (kk : ∀ (H1 : Heap) (locs1 : List Loc), va_P X.1 ts_vc (ts_ws X σ) H1 → va_S X.2.2.2.2.2.2 s.heap H1 locs1 → W p l e (ts_room d) s m args below meth c H1 locs1 0 0 Q (F0 m (pc + 3) ls ((ts_psh r rest).map (ts_tr X)))) : W p l e (ts_room d) s m args below meth c H locs 0 0 Q (F0 m pc ls (As.reverse ++ .ref a :: rest.map (ts_tr X))) := by
  obtain ⟨⟨hcode, hini⟩, hd1, hmx, hkind⟩ := hmw
  have tb : ∀ w ∈ ts_TB, w.before args s = true := fun w hw => C.2.2.2.2.1 w (C.2.2.2.2.2.1 w hw)
  rcases hkind with ⟨e1, -⟩ | ⟨hlt, hcn, hinst, hsel⟩
  · exact absurd e1 ht
  · exact ts_go (a := (Value.ref a :: As).toArray) (rest := rest) (va_runV (C := mi.1.cls) (b := a) (As := As) (rest := rest.map (ts_tr X)) (n := mi.2.2.2.2.1) ⟨C.1, C.2.1, C.2.2.1, C.2.2.2.1, C.2.2.2.2.1⟩ hM
      ⟨callB_of mi.2.2.2.2.1 C.2.2.2.2.1 (ts_good C.2.2.2.2.2.1 hcode) rfl rfl rfl (tb _ hini) (tb _ hw) hd1 (ts_fit hdd hmx), tb _ hinst, tb _ hsel⟩
      ⟨ts_blind, hrc, ts_pre C hP hS _⟩ rfl hn hL rfl (lv_room (by rw [ts_sum_map]; exact hsum)) hd ⟨Nat.le_refl _, Nat.le_refl _⟩) hS kk
end SKM
section SKC
variable {X : ts_X} {l : Launch} {σ : ts_S}
theorem k_chk3 (hD : ∀ σ, va_D X.2.2.2.2.2.2 (ts_ws X σ)) {i n : Int32} {v : Value} (hv : v = .null ∨ ∃ t, v = .ref t) (h1 : ¬ i < 0) (h2 : i < n) : sk_Met X l mJ_chk3 0 [.int i, .int n, v] σ (some (.inl i)) := by
  refine sk_of mJ_chk3 0 _ (by decide) hD (by rcases hv with rfl | ⟨t, rfl⟩ <;> exact Nat.le_of_ble_eq_true rfl) ?_
  intro p e s m below meth c ls C hr hl hP
  have hl : lv_has ls 3 [(0, .int i), (1, .int n), (2, v)] := hl
  have hx := C.1
  have hb : c.code = cJ3_checkIndex_8e157 := C.2.1
  have hS : va_S X.2.2.2.2.2.2 s.heap s.heap [] := va_S.rf
  refine lv_iload_n hx hb dJ3_checkIndex_8e157_0 rfl (lv_at hl 0 rfl) ?_
  refine lv_if_lt (tgt := 9) hx hb dJ3_checkIndex_8e157_1 (by decide) (fun q => absurd q h1) (fun _ => ?_)
  refine lv_iload_n hx hb dJ3_checkIndex_8e157_4 rfl (lv_at hl 0 rfl) ?_
  refine lv_iload_n hx hb dJ3_checkIndex_8e157_5 rfl (lv_at hl 1 rfl) ?_
  refine lv_icmp_lt (tgt := 16) hx hb dJ3_checkIndex_8e157_6 (by decide) (fun _ => ?_) (fun q => absurd h2 q)
  refine lv_iload_n hx hb dJ3_checkIndex_8e157_16 rfl (lv_at hl 0 rfl) ?_
  exact W.iret hx hb hr (fun t ht hW => ⟨rfl, by rw [ht]; exact hP, hS.F ht⟩) hS.2.2 dJ3_checkIndex_8e157_17 C.2.2.2.2.2.2.2.2
theorem k_chk0 (hD : ∀ σ, va_D X.2.2.2.2.2.2 (ts_ws X σ)) {i n : Int32} (h1 : ¬ i < 0) (h2 : i < n) : sk_Met X l mJ_chk0 1 [.int i, .int n] σ none := by
  refine sk_of mJ_chk0 1 _ (by decide) hD (Nat.le_of_ble_eq_true rfl) ?_
  intro p e s m below meth c ls C hr hl hP
  have hl : lv_has ls 2 [(0, .int i), (1, .int n)] := hl
  have hx := C.1
  have hb : c.code = cJ0_checkIndex_df160 := C.2.1
  have hS : va_S X.2.2.2.2.2.2 s.heap s.heap [] := va_S.rf
  have tb : ∀ w ∈ ts_TB, w.before [Value.int i, .int n].toArray s = true := fun w hw => C.2.2.2.2.1 w (C.2.2.2.2.2.1 w hw)
  refine lv_iload_n hx hb dJ0_checkIndex_df160_0 rfl (lv_at hl 0 rfl) ?_
  refine lv_iload_n hx hb dJ0_checkIndex_df160_1 rfl (lv_at hl 1 rfl) ?_
  obtain ⟨v, hv, hZ⟩ : ∃ v, (v = .null ∨ ∃ t, v = .ref t) ∧ va_Z "jdk/internal/util/Preconditions" "SIOOBE_FORMATTER" "Ljava/util/function/BiFunction;" v X.2.2.2.2.2.2 s s.heap := by
    rcases C.2.2.2.2.2.2.1.2.2.2.2.2 with h | ⟨t, h⟩
    · exact ⟨.null, Or.inl rfl, h⟩
    · exact ⟨.ref t, Or.inr ⟨t, rfl⟩, h⟩
  refine va_gets hx hb hZ hS C.2.2.2.1 (tb (.fieldLink RJ0 1053 "jdk/internal/util/Preconditions" "SIOOBE_FORMATTER" "Ljava/util/function/BiFunction;") (ts_wx_in (q := 3062) (by decide +kernel))) (fun _ h => h) dJ0_checkIndex_df160_2 ?_
  refine sk_stat (rest := []) (vs := [.int i, .int n, v]) C (k_chk3 hD hv h1 h2) (by omega) mwJ_chk3 rfl rfl (j := 1059) (ts_wx_in (q := 3064) (by decide +kernel)) dJ0_checkIndex_df160_5 (by decide) hP hS hl.1 (fun H1 locs1 hP1 hS1 => ?_)
  refine lv_pop hx hb dJ0_checkIndex_df160_8 rfl ?_
  exact W.vret hx hb hr (fun t ht hW => ⟨rfl, by rw [ht]; exact hP1, hS1.F ht⟩) hS1.2.2 dJ0_checkIndex_df160_9 C.2.2.2.2.2.2.2.2
theorem k_coder (hD : ∀ σ, va_D X.2.2.2.2.2.2 (ts_ws X σ)) {j : Nat} (hj : j < 13) : sk_Met X l mJ_coder 0 [.ref (X.2.2.1 j)] σ (some (.inl 0)) := by
  refine sk_of mJ_coder 0 _ (by decide) hD (Nat.le_of_ble_eq_true rfl) ?_
  intro p e s m below meth c ls C hr hl hP
  have hl : lv_has ls 1 [(0, .ref (X.2.2.1 j))] := hl
  have hx := C.1
  have hb : c.code = cJ0_coder_7d493 := C.2.1
  have hS : va_S X.2.2.2.2.2.2 s.heap s.heap [] := va_S.rf
  have tb : ∀ w ∈ ts_TB, w.before [Value.ref (X.2.2.1 j)].toArray s = true := fun w hw => C.2.2.2.2.1 w (C.2.2.2.2.2.1 w hw)
  have hY := C.2.2.2.2.2.2.1
  refine va_gets hx hb hY.2.2.2.2.1 hS C.2.2.2.1 (tb (.fieldLink RJ0 38 "java/lang/String" "COMPACT_STRINGS" "Z") (ts_wx_in (q := 3046) (by decide +kernel))) (fun _ h => h) dJ0_coder_7d493_0 ?_
  refine lv_if_eq (tgt := 13) hx hb dJ0_coder_7d493_3 (by decide) (fun q => absurd q (by decide)) (fun _ => ?_)
  refine lv_aload_n hx hb dJ0_coder_7d493_6 rfl (lv_at hl 0 rfl) ?_
  refine vk_getf hx hb (hY.2.1 j hj).2.1 hS C.2.2.2.1 (tb (.fieldLink RJ0 15 "java/lang/String" "coder" "B") (ts_wx_in (q := 6007) (by decide +kernel))) (fun _ h => h) dJ0_coder_7d493_7 ?_
  refine lv_goto (tgt := 14) hx hb dJ0_coder_7d493_10 (by decide) ?_
  exact W.zret hx hb hr (by decide) (fun t ht hW => ⟨rfl, by rw [ht]; exact hP, hS.F ht⟩) hS.2.2 dJ0_coder_7d493_14 C.2.2.2.2.2.2.2.2
theorem k_latin (hD : ∀ σ, va_D X.2.2.2.2.2.2 (ts_ws X σ)) {j : Nat} (hj : j < 13) : sk_Met X l mJ_latin 0 [.ref (X.2.2.1 j)] σ (some (.inl 1)) := by
  refine sk_of mJ_latin 0 _ (by decide) hD (Nat.le_of_ble_eq_true rfl) ?_
  intro p e s m below meth c ls C hr hl hP
  have hl : lv_has ls 1 [(0, .ref (X.2.2.1 j))] := hl
  have hx := C.1
  have hb : c.code = cJ0_isLatin1_aae02 := C.2.1
  have hS : va_S X.2.2.2.2.2.2 s.heap s.heap [] := va_S.rf
  have tb : ∀ w ∈ ts_TB, w.before [Value.ref (X.2.2.1 j)].toArray s = true := fun w hw => C.2.2.2.2.1 w (C.2.2.2.2.2.1 w hw)
  have hY := C.2.2.2.2.2.2.1
  refine va_gets hx hb hY.2.2.2.2.1 hS C.2.2.2.1 (tb (.fieldLink RJ0 38 "java/lang/String" "COMPACT_STRINGS" "Z") (ts_wx_in (q := 3046) (by decide +kernel))) (fun _ h => h) dJ0_isLatin1_aae02_0 ?_
  refine lv_if_eq (tgt := 17) hx hb dJ0_isLatin1_aae02_3 (by decide) (fun q => absurd q (by decide)) (fun _ => ?_)
  refine lv_aload_n hx hb dJ0_isLatin1_aae02_6 rfl (lv_at hl 0 rfl) ?_
  refine vk_getf hx hb (hY.2.1 j hj).2.1 hS C.2.2.2.1 (tb (.fieldLink RJ0 15 "java/lang/String" "coder" "B") (ts_wx_in (q := 6007) (by decide +kernel))) (fun _ h => h) dJ0_isLatin1_aae02_7 ?_
  refine lv_if_ne (tgt := 17) hx hb dJ0_isLatin1_aae02_10 (by decide) (fun q => absurd rfl q) (fun _ => ?_)
  refine lv_iconst (v := 1) hx hb dJ0_isLatin1_aae02_13 (by decide) ?_
  refine lv_goto (tgt := 18) hx hb dJ0_isLatin1_aae02_14 (by decide) ?_
  exact W.zret hx hb hr (by decide) (fun t ht hW => ⟨rfl, by rw [ht]; exact hP, hS.F ht⟩) hS.2.2 dJ0_isLatin1_aae02_18 C.2.2.2.2.2.2.2.2
theorem ch_ok : ∀ a, a < 13 → ∀ i, i < ln a → ((ch a i &&& 255).toUInt32 % 65536).toInt32 = ch a i ∧ narrow .char (.int (ch a i)) = .int (ch a i) := by decide +kernel
theorem ln_ok : ∀ a, a < 13 → Int32.ofNat (ln a) >>> ((0 : Int32) &&& 31) = Int32.ofNat (ln a) := by decide +kernel
theorem k_char1 (hD : ∀ σ, va_D X.2.2.2.2.2.2 (ts_ws X σ)) {j i : Nat} (hj : j < 13) (hi : i < ln j) : sk_Met X l mJ_char1 2 [.ref (X.2.2.2.1 j), .int (nI i)] σ (some (.inl (ch j i))) := by
  have l20 := ln_b j hj
  refine sk_of mJ_char1 2 _ (by decide) hD (Nat.le_of_ble_eq_true rfl) ?_
  intro p e s m below meth c ls C hr hl hP
  have hl : lv_has ls 2 [(0, .ref (X.2.2.2.1 j)), (1, .int (nI i))] := hl
  have hx := C.1
  have hb : c.code = cJ1_charAt_3b067 := C.2.1
  have hS : va_S X.2.2.2.2.2.2 s.heap s.heap [] := va_S.rf
  have hY := C.2.2.2.2.2.2.1
  refine lv_iload_n hx hb dJ1_charAt_3b067_0 rfl (lv_at hl 1 rfl) ?_
  refine lv_aload_n hx hb dJ1_charAt_3b067_1 rfl (lv_at hl 0 rfl) ?_
  refine va_tlen hx hb (hY.2.1 j hj).2.2.2 hS (v := nI (ln j)) rfl dJ1_charAt_3b067_2 ?_
  refine sk_stat (rest := []) (vs := [.int (nI i), .int (nI (ln j))]) C (k_chk0 hD (by rw [← nI_0]; exact nn (by omega)) (nI_lt hi (by omega))) (by omega) mwJ_chk0 rfl rfl (j := 9) (ts_wx_in (q := 3059) (by decide +kernel)) dJ1_charAt_3b067_3 (by decide) hP hS hl.1 (fun H1 locs1 hP1 hS1 => ?_)
  refine lv_aload_n hx hb dJ1_charAt_3b067_6 rfl (lv_at hl 0 rfl) ?_
  refine lv_iload_n hx hb dJ1_charAt_3b067_7 rfl (lv_at hl 1 rfl) ?_
  refine va_tb hx hb (hY.2.1 j hj).2.2.2 hS1 (i := nI i) (show vp_in (nI i) (ln j) from vp_in_nI hi (by omega)) (v := .int (ch j i)) (by rw [nI_clamp (by omega)]; rfl) dJ1_charAt_3b067_8 ?_
  refine lv_sipush (v := 255) hx hb dJ1_charAt_3b067_9 (by decide) ?_
  refine lv_iand hx hb dJ1_charAt_3b067_12 ?_
  refine lv_i2c (v := ch j i) hx hb dJ1_charAt_3b067_13 (ch_ok j hj i hi).1 ?_
  exact W.zret hx hb hr (ch_ok j hj i hi).2 (fun t ht hW => ⟨rfl, by rw [ht]; exact hP1, hS1.F ht⟩) hS1.2.2 dJ1_charAt_3b067_14 C.2.2.2.2.2.2.2.2
theorem k_slen (hD : ∀ σ, va_D X.2.2.2.2.2.2 (ts_ws X σ)) : ts_Met X l (ts_mi 3) 1 F_slen := by
  intro as σ r σ' hS'
  have hh : ∃ j, as = [.inr (.inr (.inr j))] ∧ j < 13 ∧ r = some (.inl (Int32.ofNat (ln j))) ∧ σ' = σ := by
    unfold F_slen at hS'
    split at hS'
    · next j =>
      obtain ⟨h1, h2⟩ := ts_cond_i hS'
      cases h2
      exact ⟨j, rfl, Nat.le_of_ble_eq_true h1, rfl, rfl⟩
    · cases hS'
  obtain ⟨j, rfl, hj, rfl, rfl⟩ := hh
  have l20 := ln_b j hj
  refine sk_of (ts_mi 3) 1 [.ref (X.2.2.1 j)] (by decide +kernel) hD (Nat.le_of_ble_eq_true rfl) ?_
  intro p e s m below meth c ls C hr hl hP
  have hl : lv_has ls 1 [(0, .ref (X.2.2.1 j))] := hl
  have hx := C.1
  have hb : c.code = cJ0_length_8abf5 := C.2.1
  have hS : va_S X.2.2.2.2.2.2 s.heap s.heap [] := va_S.rf
  have tb : ∀ w ∈ ts_TB, w.before [Value.ref (X.2.2.1 j)].toArray s = true := fun w hw => C.2.2.2.2.1 w (C.2.2.2.2.2.1 w hw)
  have hY := C.2.2.2.2.2.2.1
  have hown : s.vm.findClass RJ0 = some m.cls := C.2.2.2.1
  have C' : ts_Cx X p s m [Value.ref (X.2.2.1 j)].toArray meth c cJ0_length_8abf5 1 RJ0 (ts_wl (ts_mi 3)) := C
  refine lv_aload_n hx hb dJ0_length_8abf5_0 rfl (lv_at hl 0 rfl) ?_
  refine vk_getf hx hb (hY.2.1 j hj).2.2.1 hS hown (tb (.fieldLink RJ0 9 "java/lang/String" "value" "[B") (ts_wx_in (q := 6006) (by decide +kernel))) (fun _ h => h) dJ0_length_8abf5_1 ?_
  refine va_tlen hx hb (hY.2.1 j hj).2.2.2 hS (v := Int32.ofNat (ln j)) rfl dJ0_length_8abf5_4 ?_
  refine lv_aload_n hx hb dJ0_length_8abf5_5 rfl (lv_at hl 0 rfl) ?_
  obtain ⟨cell, h1, h2, h3, -⟩ := (hY.2.1 j hj).1
  refine sk_virt (rest := [.inl (Int32.ofNat (ln j))]) (As := []) C' (k_coder hD hj) (by omega) mwJ_coder (by decide) rfl (j := 335) (ts_wx_in (q := 3042) (by decide +kernel)) dJ0_length_8abf5_6 (show 1 + 0 ≤ 8 by omega) hP hS hl.1 ⟨cell, h1, h2, h3⟩ (fun H1 locs1 hP1 hS1 => ?_)
  refine lv_ishr hx hb dJ0_length_8abf5_9 ?_
  rw [ln_ok j hj]
  exact W.iret hx hb hr (fun t ht hW => ⟨rfl, by rw [ht]; exact hP1, hS1.F ht⟩) hS1.2.2 dJ0_length_8abf5_10 C.2.2.2.2.2.2.2.2
theorem k_schar (hD : ∀ σ, va_D X.2.2.2.2.2.2 (ts_ws X σ)) : ts_Met X l (ts_mi 4) 3 F_schar := by
  intro as σ r σ' hS'
  have hh : ∃ j i, as = [.inr (.inr (.inr j)), .inl (nI i)] ∧ j < 13 ∧ i < ln j ∧ r = some (.inl (ch j i)) ∧ σ' = σ := by
    unfold F_schar at hS'
    split at hS'
    · next j i =>
      obtain ⟨h1, h2⟩ := ts_cond_i hS'
      obtain ⟨h3, h4⟩ := ts_ck_i h2
      have hj : j < 13 := Nat.le_of_ble_eq_true h1
      have l20 := ln_b j hj
      have h5 : vp_in i (ln j) := h3
      have hi0 : ¬ i < 0 := fun q => h5 (Or.inl q)
      obtain ⟨k, hk, rfl⟩ := nI_of hi0
      have hk2 : k < ln j := by
        rcases Nat.lt_or_ge k (ln j) with q | q
        · exact q
        · exact absurd (Or.inr (by rw [nI_clamp hk]; exact q)) h5
      rw [nI_clamp hk] at h4
      cases h4
      exact ⟨j, k, rfl, hj, hk2, rfl, rfl⟩
    · cases hS'
  obtain ⟨j, i, rfl, hj, hi, rfl, rfl⟩ := hh
  have l20 := ln_b j hj
  refine sk_of (ts_mi 4) 3 [.ref (X.2.2.1 j), .int (nI i)] (by decide +kernel) hD (Nat.le_of_ble_eq_true rfl) ?_
  intro p e s m below meth c ls C hr hl hP
  have hl : lv_has ls 2 [(0, .ref (X.2.2.1 j)), (1, .int (nI i))] := hl
  have hx := C.1
  have hb : c.code = cJ0_charAt_5068e := C.2.1
  have hS : va_S X.2.2.2.2.2.2 s.heap s.heap [] := va_S.rf
  have tb : ∀ w ∈ ts_TB, w.before [Value.ref (X.2.2.1 j), .int (nI i)].toArray s = true := fun w hw => C.2.2.2.2.1 w (C.2.2.2.2.2.1 w hw)
  have hY := C.2.2.2.2.2.2.1
  have hown : s.vm.findClass RJ0 = some m.cls := C.2.2.2.1
  have C' : ts_Cx X p s m [Value.ref (X.2.2.1 j), .int (nI i)].toArray meth c cJ0_charAt_5068e 2 RJ0 (ts_wl (ts_mi 4)) := C
  refine lv_aload_n hx hb dJ0_charAt_5068e_0 rfl (lv_at hl 0 rfl) ?_
  obtain ⟨cell, h1, h2, h3, -⟩ := (hY.2.1 j hj).1
  refine sk_virt (rest := []) (As := []) C' (k_latin hD hj) (by omega) mwJ_latin (by decide) rfl (j := 492) (ts_wx_in (q := 3052) (by decide +kernel)) dJ0_charAt_5068e_1 (by decide) hP hS hl.1 ⟨cell, h1, h2, h3⟩ (fun H1 locs1 hP1 hS1 => ?_)
  refine lv_if_eq (tgt := 16) hx hb dJ0_charAt_5068e_4 (by decide) (fun q => absurd q (by decide)) (fun _ => ?_)
  refine lv_aload_n hx hb dJ0_charAt_5068e_7 rfl (lv_at hl 0 rfl) ?_
  refine vk_getf hx hb (hY.2.1 j hj).2.2.1 hS1 hown (tb (.fieldLink RJ0 9 "java/lang/String" "value" "[B") (ts_wx_in (q := 6006) (by decide +kernel))) (fun _ h => h) dJ0_charAt_5068e_8 ?_
  refine lv_iload_n hx hb dJ0_charAt_5068e_11 rfl (lv_at hl 1 rfl) ?_
  refine sk_stat (rest := []) (vs := [.ref (X.2.2.2.1 j), .int (nI i)]) C' (k_char1 hD hj hi) (by omega) mwJ_char1 rfl rfl (j := 495) (ts_wx_in (q := 3056) (by decide +kernel)) dJ0_charAt_5068e_12 (by decide) hP1 hS1 hl.1 (fun H2 locs2 hP2 hS2 => ?_)
  exact W.zret hx hb hr (ch_ok j hj i hi).2 (fun t ht hW => ⟨rfl, by rw [ht]; exact hP2, hS2.F ht⟩) hS2.2.2 dJ0_charAt_5068e_15 C.2.2.2.2.2.2.2.2
theorem J_of (hD : ∀ σ, va_D X.2.2.2.2.2.2 (ts_ws X σ)) : ts_J X l := ⟨hD, k_slen hD, k_schar hD⟩
end SKC
