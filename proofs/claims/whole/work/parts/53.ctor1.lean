/-! constructors -/
def z0 : Nat → Int32 := fun _ => 0
section NEWI
variable {p : Program} {l : Launch} {e : Env} {R : Room} {s : State} {m : MethodId} {args : Array Value} {below : List Frame} {meth : Method} {c : Code} {H H0 : Heap} {locs : List Loc} {cells slots : Nat} {Q : State → Prop} {cc : ByteArray} {pc : Nat} {ls : Array Slot} {rest : List Value} {D : va_G} {cl : List vw_C} {tys : List (ClassId × FieldType)} {ws : va_W} {A : Nat → Prop}
theorem ca_one {cA cB : ClassId} (hK : va_K D cl tys s) {i j : Nat} (hi : tys[i]? = some (cA, .int)) (hj : tys[j]? = some (cB, .int)) : cB = cA := by
  have h1 : s.vm.findClass ("[" ++ FieldType.int.toString) = some cA := (hK.2 i _ hi).2
  have h2 : s.vm.findClass ("[" ++ FieldType.int.toString) = some cB := (hK.2 j _ hj).2
  exact Option.some.inj (h2.symm.trans h1)
theorem n_newi (hexec : p.tables.exec = Jvm.exec) (hb : c.code = cc) (harr : (Cond.arrayClass .int).before args s = true) {cA : ClassId} (hK : va_K D cl tys s) (ht : tys[0]? = some (cA, .int)) (hP : va_P D cl ws H) (hD : va_D A ws) (hS : va_S A H0 H locs) (hA : ∀ q, H0.size ≤ q → A q)
    {n : Int32} {N : Nat} (hn : ¬ n < 0) (hN : n.toNatClampNeg = N) (hbytes : N * 4 ≤ 536870912) (hcells : cells + 1 ≤ R.cells) (hslots : slots + N ≤ R.slots) (hdg : decode cc pc = .ok (.newarray .int, 2))
    (kk : ∀ (q : Nat) (H1 : Heap), va_P D cl (ws ++ [(q, .inl (cA, N, .inl z0))]) H1 → va_D A (ws ++ [(q, .inl (cA, N, .inl z0))]) → va_S A H0 H1 locs →
      W p l e R s m args below meth c H1 locs (cells + 1) (slots + N) Q (F0 m (pc + 2) ls (.ref q :: rest))) : W p l e R s m args below meth c H locs cells slots Q (F0 m pc ls (.int n :: rest)) := by
  refine va_newa (atype := .int) (ty := .int) (a0 := (N, .inl z0)) hexec hb harr rfl hK hP hD hS hA (fun cB => by rw [vp_cell_i]; rfl) hn hN hbytes hcells hslots hdg (fun q cB H1 hK1 hP1 hD1 hS1 => ?_)
  have hl : 0 < tys.length := (List.getElem?_eq_some_iff.mp ht).1
  have e1 : cB = cA := ca_one hK1 (i := 0) (j := tys.length) (by rw [List.getElem?_append_left hl]; exact ht) (by rw [List.getElem?_append_right (Nat.le_refl _), Nat.sub_self]; rfl)
  subst e1
  exact kk q H1 hP1 hD1 hS1
end NEWI
theorem dX1_init_0 : decode cX1_init 0 = .ok (.aload_n 0, 1) := by decide +kernel
theorem dX1_init_1 : decode cX1_init 1 = .ok (.invokespecial 3, 3) := by decide +kernel
theorem dX1_init_4 : decode cX1_init 4 = .ok (.aload_n 0, 1) := by decide +kernel
theorem dX1_init_5 : decode cX1_init 5 = .ok (.bipush 6, 2) := by decide +kernel
theorem dX1_init_7 : decode cX1_init 7 = .ok (.newarray .int, 2) := by decide +kernel
theorem dX1_init_9 : decode cX1_init 9 = .ok (.putfield 9, 3) := by decide +kernel
theorem dX1_init_12 : decode cX1_init 12 = .ok (.aload_n 0, 1) := by decide +kernel
theorem dX1_init_13 : decode cX1_init 13 = .ok (.iconst 0, 1) := by decide +kernel
theorem dX1_init_14 : decode cX1_init 14 = .ok (.putfield 15, 3) := by decide +kernel
theorem dX1_init_17 : decode cX1_init 17 = .ok (.aload_n 0, 1) := by decide +kernel
theorem dX1_init_18 : decode cX1_init 18 = .ok (.iconst 0, 1) := by decide +kernel
theorem dX1_init_19 : decode cX1_init 19 = .ok (.putfield 19, 3) := by decide +kernel
theorem dX1_init_22 : decode cX1_init 22 = .ok (.aload_n 0, 1) := by decide +kernel
theorem dX1_init_23 : decode cX1_init 23 = .ok (.iconst 1, 1) := by decide +kernel
theorem dX1_init_24 : decode cX1_init 24 = .ok (.putfield 22, 3) := by decide +kernel
theorem dX1_init_27 : decode cX1_init 27 = .ok (.aload_n 0, 1) := by decide +kernel
theorem dX1_init_28 : decode cX1_init 28 = .ok (.iconst 0, 1) := by decide +kernel
theorem dX1_init_29 : decode cX1_init 29 = .ok (.putfield 25, 3) := by decide +kernel
theorem dX1_init_32 : decode cX1_init 32 = .ok (.aload_n 0, 1) := by decide +kernel
theorem dX1_init_33 : decode cX1_init 33 = .ok (.bipush 8, 2) := by decide +kernel
theorem dX1_init_35 : decode cX1_init 35 = .ok (.newarray .int, 2) := by decide +kernel
theorem dX1_init_37 : decode cX1_init 37 = .ok (.putfield 28, 3) := by decide +kernel
theorem dX1_init_40 : decode cX1_init 40 = .ok (.aload_n 0, 1) := by decide +kernel
theorem dX1_init_41 : decode cX1_init 41 = .ok (.bipush 8, 2) := by decide +kernel
theorem dX1_init_43 : decode cX1_init 43 = .ok (.newarray .int, 2) := by decide +kernel
theorem dX1_init_45 : decode cX1_init 45 = .ok (.putfield 31, 3) := by decide +kernel
theorem dX1_init_48 : decode cX1_init 48 = .ok (.aload_n 0, 1) := by decide +kernel
theorem dX1_init_49 : decode cX1_init 49 = .ok (.bipush 8, 2) := by decide +kernel
theorem dX1_init_51 : decode cX1_init 51 = .ok (.newarray .int, 2) := by decide +kernel
theorem dX1_init_53 : decode cX1_init 53 = .ok (.putfield 34, 3) := by decide +kernel
theorem dX1_init_56 : decode cX1_init 56 = .ok (.aload_n 0, 1) := by decide +kernel
theorem dX1_init_57 : decode cX1_init 57 = .ok (.bipush 8, 2) := by decide +kernel
theorem dX1_init_59 : decode cX1_init 59 = .ok (.newarray .int, 2) := by decide +kernel
theorem dX1_init_61 : decode cX1_init 61 = .ok (.putfield 37, 3) := by decide +kernel
theorem dX1_init_64 : decode cX1_init 64 = .ok (.aload_n 0, 1) := by decide +kernel
theorem dX1_init_65 : decode cX1_init 65 = .ok (.bipush 40, 2) := by decide +kernel
theorem dX1_init_67 : decode cX1_init 67 = .ok (.newarray .int, 2) := by decide +kernel
theorem dX1_init_69 : decode cX1_init 69 = .ok (.putfield 40, 3) := by decide +kernel
theorem dX1_init_72 : decode cX1_init 72 = .ok (.aload_n 0, 1) := by decide +kernel
theorem dX1_init_73 : decode cX1_init 73 = .ok (.iconst 0, 1) := by decide +kernel
theorem dX1_init_74 : decode cX1_init 74 = .ok (.putfield 43, 3) := by decide +kernel
theorem dX1_init_77 : decode cX1_init 77 = .ok (.aload_n 0, 1) := by decide +kernel
theorem dX1_init_78 : decode cX1_init 78 = .ok (.bipush 6, 2) := by decide +kernel
theorem dX1_init_80 : decode cX1_init 80 = .ok (.newarray .int, 2) := by decide +kernel
theorem dX1_init_82 : decode cX1_init 82 = .ok (.putfield 46, 3) := by decide +kernel
theorem dX1_init_85 : decode cX1_init 85 = .ok (.aload_n 0, 1) := by decide +kernel
theorem dX1_init_86 : decode cX1_init 86 = .ok (.bipush 6, 2) := by decide +kernel
theorem dX1_init_88 : decode cX1_init 88 = .ok (.newarray .int, 2) := by decide +kernel
theorem dX1_init_90 : decode cX1_init 90 = .ok (.putfield 49, 3) := by decide +kernel
theorem dX1_init_93 : decode cX1_init 93 = .ok (.aload_n 0, 1) := by decide +kernel
theorem dX1_init_94 : decode cX1_init 94 = .ok (.bipush 6, 2) := by decide +kernel
theorem dX1_init_96 : decode cX1_init 96 = .ok (.newarray .int, 2) := by decide +kernel
theorem dX1_init_98 : decode cX1_init 98 = .ok (.putfield 52, 3) := by decide +kernel
theorem dX1_init_101 : decode cX1_init 101 = .ok (.aload_n 0, 1) := by decide +kernel
theorem dX1_init_102 : decode cX1_init 102 = .ok (.bipush 10, 2) := by decide +kernel
theorem dX1_init_104 : decode cX1_init 104 = .ok (.newarray .int, 2) := by decide +kernel
theorem dX1_init_106 : decode cX1_init 106 = .ok (.putfield 55, 3) := by decide +kernel
theorem dX1_init_109 : decode cX1_init 109 = .ok (.iconst 0, 1) := by decide +kernel
theorem dX1_init_110 : decode cX1_init 110 = .ok (.istore_n 1, 1) := by decide +kernel
theorem dX1_init_111 : decode cX1_init 111 = .ok (.iload_n 1, 1) := by decide +kernel
theorem dX1_init_112 : decode cX1_init 112 = .ok (.bipush 10, 2) := by decide +kernel
theorem dX1_init_114 : decode cX1_init 114 = .ok (.if_icmp .ge 16, 3) := by decide +kernel
theorem dX1_init_117 : decode cX1_init 117 = .ok (.aload_n 0, 1) := by decide +kernel
theorem dX1_init_118 : decode cX1_init 118 = .ok (.getfield 55, 3) := by decide +kernel
theorem dX1_init_121 : decode cX1_init 121 = .ok (.iload_n 1, 1) := by decide +kernel
theorem dX1_init_122 : decode cX1_init 122 = .ok (.iconst (-1), 1) := by decide +kernel
theorem dX1_init_123 : decode cX1_init 123 = .ok (.iastore, 1) := by decide +kernel
theorem dX1_init_124 : decode cX1_init 124 = .ok (.iinc 1 1, 3) := by decide +kernel
theorem dX1_init_127 : decode cX1_init 127 = .ok (.goto (-16), 3) := by decide +kernel
theorem dX1_init_130 : decode cX1_init 130 = .ok (.return_, 1) := by decide +kernel
theorem dX2_init_0 : decode cX2_init 0 = .ok (.aload_n 0, 1) := by decide +kernel
theorem dX2_init_1 : decode cX2_init 1 = .ok (.invokespecial 3, 3) := by decide +kernel
theorem dX2_init_4 : decode cX2_init 4 = .ok (.aload_n 0, 1) := by decide +kernel
theorem dX2_init_5 : decode cX2_init 5 = .ok (.iconst 4, 1) := by decide +kernel
theorem dX2_init_6 : decode cX2_init 6 = .ok (.newarray .int, 2) := by decide +kernel
theorem dX2_init_8 : decode cX2_init 8 = .ok (.putfield 9, 3) := by decide +kernel
theorem dX2_init_11 : decode cX2_init 11 = .ok (.aload_n 0, 1) := by decide +kernel
theorem dX2_init_12 : decode cX2_init 12 = .ok (.iconst 4, 1) := by decide +kernel
theorem dX2_init_13 : decode cX2_init 13 = .ok (.newarray .int, 2) := by decide +kernel
theorem dX2_init_15 : decode cX2_init 15 = .ok (.putfield 15, 3) := by decide +kernel
theorem dX2_init_18 : decode cX2_init 18 = .ok (.aload_n 0, 1) := by decide +kernel
theorem dX2_init_19 : decode cX2_init 19 = .ok (.sipush 160, 3) := by decide +kernel
theorem dX2_init_22 : decode cX2_init 22 = .ok (.newarray .int, 2) := by decide +kernel
theorem dX2_init_24 : decode cX2_init 24 = .ok (.putfield 18, 3) := by decide +kernel
theorem dX2_init_27 : decode cX2_init 27 = .ok (.return_, 1) := by decide +kernel
theorem dX3_init_0 : decode cX3_init 0 = .ok (.aload_n 0, 1) := by decide +kernel
theorem dX3_init_1 : decode cX3_init 1 = .ok (.invokespecial 3, 3) := by decide +kernel
theorem dX3_init_4 : decode cX3_init 4 = .ok (.aload_n 0, 1) := by decide +kernel
theorem dX3_init_5 : decode cX3_init 5 = .ok (.bipush 120, 2) := by decide +kernel
theorem dX3_init_7 : decode cX3_init 7 = .ok (.newarray .int, 2) := by decide +kernel
theorem dX3_init_9 : decode cX3_init 9 = .ok (.putfield 9, 3) := by decide +kernel
theorem dX3_init_12 : decode cX3_init 12 = .ok (.aload_n 0, 1) := by decide +kernel
theorem dX3_init_13 : decode cX3_init 13 = .ok (.iconst 0, 1) := by decide +kernel
theorem dX3_init_14 : decode cX3_init 14 = .ok (.putfield 15, 3) := by decide +kernel
theorem dX3_init_17 : decode cX3_init 17 = .ok (.aload_n 0, 1) := by decide +kernel
theorem dX3_init_18 : decode cX3_init 18 = .ok (.iconst 0, 1) := by decide +kernel
theorem dX3_init_19 : decode cX3_init 19 = .ok (.putfield 19, 3) := by decide +kernel
theorem dX3_init_22 : decode cX3_init 22 = .ok (.aload_n 0, 1) := by decide +kernel
theorem dX3_init_23 : decode cX3_init 23 = .ok (.iconst 0, 1) := by decide +kernel
theorem dX3_init_24 : decode cX3_init 24 = .ok (.putfield 22, 3) := by decide +kernel
theorem dX3_init_27 : decode cX3_init 27 = .ok (.aload_n 0, 1) := by decide +kernel
theorem dX3_init_28 : decode cX3_init 28 = .ok (.iconst 0, 1) := by decide +kernel
theorem dX3_init_29 : decode cX3_init 29 = .ok (.putfield 25, 3) := by decide +kernel
theorem dX3_init_32 : decode cX3_init 32 = .ok (.aload_n 0, 1) := by decide +kernel
theorem dX3_init_33 : decode cX3_init 33 = .ok (.iconst 0, 1) := by decide +kernel
theorem dX3_init_34 : decode cX3_init 34 = .ok (.putfield 28, 3) := by decide +kernel
theorem dX3_init_37 : decode cX3_init 37 = .ok (.return_, 1) := by decide +kernel
def m_X1 : ts_M := (yX1_init, cX1_init, 2, none, 0, 0)
def m_X2 : ts_M := (yX2_init, cX2_init, 1, none, 0, 1)
def m_X3 : ts_M := (yX3_init, cX3_init, 1, none, 0, 2)
def wwQ (cA : ClassId) (h : Nat) (u : Nat → Nat) (f : Nat → Int32) : va_W := [(h, .inr (0, [.ref (u 1), .int 0, .int 0, .int 1, .int 0, .ref (u 2), .ref (u 3), .ref (u 4), .ref (u 5), .ref (u 6), .int 0, .ref (u 7), .ref (u 8), .ref (u 9), .ref (u 10)])), (u 1, .inl (cA, 6, .inl z0)), (u 2, .inl (cA, 8, .inl z0)), (u 3, .inl (cA, 8, .inl z0)), (u 4, .inl (cA, 8, .inl z0)), (u 5, .inl (cA, 8, .inl z0)), (u 6, .inl (cA, 40, .inl z0)), (u 7, .inl (cA, 6, .inl z0)), (u 8, .inl (cA, 6, .inl z0)), (u 9, .inl (cA, 6, .inl z0)), (u 10, .inl (cA, 10, .inl f))]
def wwS (cA : ClassId) (h : Nat) (u : Nat → Nat) : va_W := [(h, .inr (1, [.ref (u 1), .ref (u 2), .ref (u 3)])), (u 1, .inl (cA, 4, .inl z0)), (u 2, .inl (cA, 4, .inl z0)), (u 3, .inl (cA, 160, .inl z0))]
def wwT (cA : ClassId) (h : Nat) (u : Nat → Nat) : va_W := [(h, .inr (2, [.ref (u 1), .int 0, .int 0, .int 0, .int 0, .int 0])), (u 1, .inl (cA, 120, .inl z0))]
set_option maxHeartbeats 4000000 in
set_option maxRecDepth 100000 in
theorem c_X2_init (l : Launch) (D : va_G) (cA cS : ClassId) (h0 sz : Nat) : Met l yX2_init (ts_wl m_X2) ({ frames := 1, cells := 3, slots := 168, locals := 39 }) (va_Pc [.ref h0] (fun U => U.heap.size = sz ∧ va_P D ts_vc [(h0, .inr (1, [.null, .null, .null]))] U.heap ∧ va_K D ts_vc [(cA, .int), (cS, .object "java/lang/String")] U ∧ va_D (fun _ => True) [(h0, .inr (1, [.null, .null, .null]))])) (va_Qv (fun _ : Nat → Nat => True) (fun u t => va_P D ts_vc (wwS cA h0 u) t.heap ∧ va_K D ts_vc [(cA, .int), (cS, .object "java/lang/String")] t ∧ va_D (va_A [(h0, .inr (1, [.null, .null, .null]))] sz) (wwS cA h0 u)) (va_A [(h0, .inr (1, [.null, .null, .null]))] sz)) 3 168 (va_A [(h0, .inr (1, [.null, .null, .null]))] sz) := by
  refine Met.ofW (cc := cX2_init) (maxL := 1) (ret := none) (by decide) rfl ?_
  intro p e s m args below meth c s₁ B hml hv
  obtain ⟨rfl, hsz, hP, hK, hD0⟩ := hv
  have hx := B.exec
  have hb := B.bytes
  have hr := B.returns
  have hts := atoms_spec (ws := ts_wl m_X2) B.pre
  have tb : ∀ w ∈ ts_TB, w.before #[Value.ref h0] s = true := fun w h => hts w (List.mem_cons_of_mem _ h)
  have hin0 : ∀ w ∈ u_ws RX2 TX2 3, w ∈ ts_wl m_X2 := fun w h => List.mem_cons_of_mem _ (ts_lw_in (k := 1) (by decide) w h)
  have hown : s.vm.findClass RX2 = some m.cls := findClass_of_methodNamed B.named
  have hlocks := B.notSynchronized
  have hin : meth.name = "<init>" := (name_of_methodNamed B.named B.method).1
  subst hsz
  have hD := hD0.self (sz := s.heap.size)
  generalize hAe : va_A [(h0, .inr (1, [.null, .null, .null]))] s.heap.size = A at hD ⊢
  have hA : ∀ q : Nat, s.heap.size ≤ q → A q := fun q h => by rw [← hAe]; exact Or.inr h
  have hS : va_S A s.heap s.heap [] := va_S.rf
  have hP : va_P D ts_vc [(h0, .inr (1, [.null, .null, .null]))] s.heap := hP
  have hl := lv_entry ([.ref h0]) (n := 1) (Nat.le_of_ble_eq_true rfl)
  rw [lg_entry_eq]
  generalize (lg_sl ([.ref h0]) ++ List.replicate (1 - (lg_sl ([.ref h0])).length) Slot.unset).toArray = ls at hl ⊢
  have hl : lv_has ls 1 [(0, .ref h0)] := hl
  refine lv_aload_n hx hb dX2_init_0 rfl (lv_at hl 0 rfl) ?_
  refine W.objInit hx hb hown (tb (.methodLink RX2 3 objectInit) (ts_wx_in (q := 1126) (by decide +kernel))) (tb (.instanceMethod objectInit) (ts_wx_in (q := 1020) (by decide +kernel))) (tb (.code objectInit ⟨#[0xb1]⟩ 1 none) (ts_wx_in (q := 1021) (by decide +kernel))) rfl (by rw [hml]; exact hl.1) rfl dX2_init_1 (Nat.le_of_ble_eq_true rfl) (Nat.le_of_ble_eq_true rfl) ?_
  refine W.eq (g2 := F0 m 4 ls []) rfl ?_
  refine lv_aload_n hx hb dX2_init_4 rfl (lv_at hl 0 rfl) ?_
  refine lv_iconst (v := 4) hx hb dX2_init_5 (by decide) ?_
  refine n_newi (N := 4) hx hb (tb (.arrayClass .int) (ts_wx_in (q := 1094) (by decide +kernel))) hK rfl hP hD hS hA (by decide) (by decide) (Nat.le_of_ble_eq_true rfl) (Nat.le_of_ble_eq_true rfl) (Nat.le_of_ble_eq_true rfl) dX2_init_6 (fun a1 H hP hD hS => ?_)
  have hP : va_P D ts_vc [(h0, .inr (1, [.null, .null, .null])), (a1, .inl (cA, 4, .inl z0))] H := hP
  have hD : va_D A [(h0, .inr (1, [.null, .null, .null])), (a1, .inl (cA, 4, .inl z0))] := hD
  refine va_putF (D := D) (ci := 1) (v := (.ref a1)) (ty := (.array .int)) (C := RX2) (T := TX2) (N := 3) hx hb hts hin0 tyX2 tyX2_ok nmX2 hown hK hP hD hS 0 rfl rfl 0 (by decide) (tb (.fieldLink RX2 9 "TollSills$Sheets" "bits" "[I") (ts_wx_in (q := 1127) (by decide +kernel))) (fun _ h9 => h9) rfl hin rfl (by decide +kernel) rfl rfl (Nat.le_of_ble_eq_true rfl) dX2_init_8 (fun H locs hP hD hS => ?_)
  have hP : va_P D ts_vc [(h0, .inr (1, [(.ref a1), .null, .null])), (a1, .inl (cA, 4, .inl z0))] H := hP
  have hD : va_D A [(h0, .inr (1, [(.ref a1), .null, .null])), (a1, .inl (cA, 4, .inl z0))] := hD
  refine lv_aload_n hx hb dX2_init_11 rfl (lv_at hl 0 rfl) ?_
  refine lv_iconst (v := 4) hx hb dX2_init_12 (by decide) ?_
  refine n_newi (N := 4) hx hb (tb (.arrayClass .int) (ts_wx_in (q := 1094) (by decide +kernel))) hK rfl hP hD hS hA (by decide) (by decide) (Nat.le_of_ble_eq_true rfl) (Nat.le_of_ble_eq_true rfl) (Nat.le_of_ble_eq_true rfl) dX2_init_13 (fun a2 H hP hD hS => ?_)
  have hP : va_P D ts_vc [(h0, .inr (1, [(.ref a1), .null, .null])), (a1, .inl (cA, 4, .inl z0)), (a2, .inl (cA, 4, .inl z0))] H := hP
  have hD : va_D A [(h0, .inr (1, [(.ref a1), .null, .null])), (a1, .inl (cA, 4, .inl z0)), (a2, .inl (cA, 4, .inl z0))] := hD
  refine va_putF (D := D) (ci := 1) (v := (.ref a2)) (ty := (.array .int)) (C := RX2) (T := TX2) (N := 3) hx hb hts hin0 tyX2 tyX2_ok nmX2 hown hK hP hD hS 0 rfl rfl 1 (by decide) (tb (.fieldLink RX2 15 "TollSills$Sheets" "sizes" "[I") (ts_wx_in (q := 1129) (by decide +kernel))) (fun _ h9 => h9) rfl hin rfl (by decide +kernel) rfl rfl (Nat.le_of_ble_eq_true rfl) dX2_init_15 (fun H locs hP hD hS => ?_)
  have hP : va_P D ts_vc [(h0, .inr (1, [(.ref a1), (.ref a2), .null])), (a1, .inl (cA, 4, .inl z0)), (a2, .inl (cA, 4, .inl z0))] H := hP
  have hD : va_D A [(h0, .inr (1, [(.ref a1), (.ref a2), .null])), (a1, .inl (cA, 4, .inl z0)), (a2, .inl (cA, 4, .inl z0))] := hD
  refine lv_aload_n hx hb dX2_init_18 rfl (lv_at hl 0 rfl) ?_
  refine lv_sipush (v := 160) hx hb dX2_init_19 (by decide) ?_
  refine n_newi (N := 160) hx hb (tb (.arrayClass .int) (ts_wx_in (q := 1094) (by decide +kernel))) hK rfl hP hD hS hA (by decide) (by decide) (Nat.le_of_ble_eq_true rfl) (Nat.le_of_ble_eq_true rfl) (Nat.le_of_ble_eq_true rfl) dX2_init_22 (fun a3 H hP hD hS => ?_)
  have hP : va_P D ts_vc [(h0, .inr (1, [(.ref a1), (.ref a2), .null])), (a1, .inl (cA, 4, .inl z0)), (a2, .inl (cA, 4, .inl z0)), (a3, .inl (cA, 160, .inl z0))] H := hP
  have hD : va_D A [(h0, .inr (1, [(.ref a1), (.ref a2), .null])), (a1, .inl (cA, 4, .inl z0)), (a2, .inl (cA, 4, .inl z0)), (a3, .inl (cA, 160, .inl z0))] := hD
  refine va_putF (D := D) (ci := 1) (v := (.ref a3)) (ty := (.array .int)) (C := RX2) (T := TX2) (N := 3) hx hb hts hin0 tyX2 tyX2_ok nmX2 hown hK hP hD hS 0 rfl rfl 2 (by decide) (tb (.fieldLink RX2 18 "TollSills$Sheets" "numbers" "[I") (ts_wx_in (q := 1131) (by decide +kernel))) (fun _ h9 => h9) rfl hin rfl (by decide +kernel) rfl rfl (Nat.le_of_ble_eq_true rfl) dX2_init_24 (fun H locs hP hD hS => ?_)
  have hP : va_P D ts_vc [(h0, .inr (1, [(.ref a1), (.ref a2), (.ref a3)])), (a1, .inl (cA, 4, .inl z0)), (a2, .inl (cA, 4, .inl z0)), (a3, .inl (cA, 160, .inl z0))] H := hP
  have hD : va_D A [(h0, .inr (1, [(.ref a1), (.ref a2), (.ref a3)])), (a1, .inl (cA, 4, .inl z0)), (a2, .inl (cA, 4, .inl z0)), (a3, .inl (cA, 160, .inl z0))] := hD
  refine W.widen (k := 3) (n := 168) (Nat.le_of_ble_eq_true rfl) (Nat.le_of_ble_eq_true rfl) ?_
  exact W.vret hx hb hr (fun t ht hW => ⟨⟨fun k => [0, a1, a2, a3].getD k 0, rfl, trivial, by rw [ht]; exact hP, va_K.moved hW.alike hK, hD⟩, hS.F ht⟩) hS.2.2 dX2_init_27 hlocks
set_option maxHeartbeats 4000000 in
set_option maxRecDepth 100000 in
theorem c_X3_init (l : Launch) (D : va_G) (cA cS : ClassId) (h0 sz : Nat) : Met l yX3_init (ts_wl m_X3) ({ frames := 1, cells := 1, slots := 120, locals := 39 }) (va_Pc [.ref h0] (fun U => U.heap.size = sz ∧ va_P D ts_vc [(h0, .inr (2, [.null, .int 0, .int 0, .int 0, .int 0, .int 0]))] U.heap ∧ va_K D ts_vc [(cA, .int), (cS, .object "java/lang/String")] U ∧ va_D (fun _ => True) [(h0, .inr (2, [.null, .int 0, .int 0, .int 0, .int 0, .int 0]))])) (va_Qv (fun _ : Nat → Nat => True) (fun u t => va_P D ts_vc (wwT cA h0 u) t.heap ∧ va_K D ts_vc [(cA, .int), (cS, .object "java/lang/String")] t ∧ va_D (va_A [(h0, .inr (2, [.null, .int 0, .int 0, .int 0, .int 0, .int 0]))] sz) (wwT cA h0 u)) (va_A [(h0, .inr (2, [.null, .int 0, .int 0, .int 0, .int 0, .int 0]))] sz)) 1 120 (va_A [(h0, .inr (2, [.null, .int 0, .int 0, .int 0, .int 0, .int 0]))] sz) := by
  refine Met.ofW (cc := cX3_init) (maxL := 1) (ret := none) (by decide) rfl ?_
  intro p e s m args below meth c s₁ B hml hv
  obtain ⟨rfl, hsz, hP, hK, hD0⟩ := hv
  have hx := B.exec
  have hb := B.bytes
  have hr := B.returns
  have hts := atoms_spec (ws := ts_wl m_X3) B.pre
  have tb : ∀ w ∈ ts_TB, w.before #[Value.ref h0] s = true := fun w h => hts w (List.mem_cons_of_mem _ h)
  have hin0 : ∀ w ∈ u_ws RX3 TX3 6, w ∈ ts_wl m_X3 := fun w h => List.mem_cons_of_mem _ (ts_lw_in (k := 2) (by decide) w h)
  have hown : s.vm.findClass RX3 = some m.cls := findClass_of_methodNamed B.named
  have hlocks := B.notSynchronized
  have hin : meth.name = "<init>" := (name_of_methodNamed B.named B.method).1
  subst hsz
  have hD := hD0.self (sz := s.heap.size)
  generalize hAe : va_A [(h0, .inr (2, [.null, .int 0, .int 0, .int 0, .int 0, .int 0]))] s.heap.size = A at hD ⊢
  have hA : ∀ q : Nat, s.heap.size ≤ q → A q := fun q h => by rw [← hAe]; exact Or.inr h
  have hS : va_S A s.heap s.heap [] := va_S.rf
  have hP : va_P D ts_vc [(h0, .inr (2, [.null, .int 0, .int 0, .int 0, .int 0, .int 0]))] s.heap := hP
  have hl := lv_entry ([.ref h0]) (n := 1) (Nat.le_of_ble_eq_true rfl)
  rw [lg_entry_eq]
  generalize (lg_sl ([.ref h0]) ++ List.replicate (1 - (lg_sl ([.ref h0])).length) Slot.unset).toArray = ls at hl ⊢
  have hl : lv_has ls 1 [(0, .ref h0)] := hl
  refine lv_aload_n hx hb dX3_init_0 rfl (lv_at hl 0 rfl) ?_
  refine W.objInit hx hb hown (tb (.methodLink RX3 3 objectInit) (ts_wx_in (q := 1100) (by decide +kernel))) (tb (.instanceMethod objectInit) (ts_wx_in (q := 1020) (by decide +kernel))) (tb (.code objectInit ⟨#[0xb1]⟩ 1 none) (ts_wx_in (q := 1021) (by decide +kernel))) rfl (by rw [hml]; exact hl.1) rfl dX3_init_1 (Nat.le_of_ble_eq_true rfl) (Nat.le_of_ble_eq_true rfl) ?_
  refine W.eq (g2 := F0 m 4 ls []) rfl ?_
  refine lv_aload_n hx hb dX3_init_4 rfl (lv_at hl 0 rfl) ?_
  refine lv_bipush (v := 120) hx hb dX3_init_5 (by decide) ?_
  refine n_newi (N := 120) hx hb (tb (.arrayClass .int) (ts_wx_in (q := 1094) (by decide +kernel))) hK rfl hP hD hS hA (by decide) (by decide) (Nat.le_of_ble_eq_true rfl) (Nat.le_of_ble_eq_true rfl) (Nat.le_of_ble_eq_true rfl) dX3_init_7 (fun a1 H hP hD hS => ?_)
  have hP : va_P D ts_vc [(h0, .inr (2, [.null, .int 0, .int 0, .int 0, .int 0, .int 0])), (a1, .inl (cA, 120, .inl z0))] H := hP
  have hD : va_D A [(h0, .inr (2, [.null, .int 0, .int 0, .int 0, .int 0, .int 0])), (a1, .inl (cA, 120, .inl z0))] := hD
  refine va_putF (D := D) (ci := 2) (v := (.ref a1)) (ty := (.array .int)) (C := RX3) (T := TX3) (N := 6) hx hb hts hin0 tyX3 tyX3_ok nmX3 hown hK hP hD hS 0 rfl rfl 0 (by decide) (tb (.fieldLink RX3 9 "TollSills$Tape" "bytes" "[I") (ts_wx_in (q := 1101) (by decide +kernel))) (fun _ h9 => h9) rfl hin rfl (by decide +kernel) rfl rfl (Nat.le_of_ble_eq_true rfl) dX3_init_9 (fun H locs hP hD hS => ?_)
  have hP : va_P D ts_vc [(h0, .inr (2, [(.ref a1), .int 0, .int 0, .int 0, .int 0, .int 0])), (a1, .inl (cA, 120, .inl z0))] H := hP
  have hD : va_D A [(h0, .inr (2, [(.ref a1), .int 0, .int 0, .int 0, .int 0, .int 0])), (a1, .inl (cA, 120, .inl z0))] := hD
  refine lv_aload_n hx hb dX3_init_12 rfl (lv_at hl 0 rfl) ?_
  refine lv_iconst (v := 0) hx hb dX3_init_13 (by decide) ?_
  refine va_put (D := D) (ci := 2) (v := (.int 0)) (ty := .int) (C := RX3) (T := TX3) (N := 6) hx hb hts hin0 tyX3 tyX3_ok nmX3 hown hK hP hD hS 0 rfl rfl 1 (by decide) (tb (.fieldLink RX3 15 "TollSills$Tape" "size" "I") (ts_wx_in (q := 1102) (by decide +kernel))) (fun _ h9 => h9) rfl (by decide +kernel) rfl rfl (Nat.le_of_ble_eq_true rfl) dX3_init_14 (fun H locs hP hD hS => ?_)
  have hP : va_P D ts_vc [(h0, .inr (2, [(.ref a1), (.int 0), .int 0, .int 0, .int 0, .int 0])), (a1, .inl (cA, 120, .inl z0))] H := hP
  have hD : va_D A [(h0, .inr (2, [(.ref a1), (.int 0), .int 0, .int 0, .int 0, .int 0])), (a1, .inl (cA, 120, .inl z0))] := hD
  refine lv_aload_n hx hb dX3_init_17 rfl (lv_at hl 0 rfl) ?_
  refine lv_iconst (v := 0) hx hb dX3_init_18 (by decide) ?_
  refine va_put (D := D) (ci := 2) (v := (.int 0)) (ty := .int) (C := RX3) (T := TX3) (N := 6) hx hb hts hin0 tyX3 tyX3_ok nmX3 hown hK hP hD hS 0 rfl rfl 2 (by decide) (tb (.fieldLink RX3 19 "TollSills$Tape" "token" "I") (ts_wx_in (q := 1104) (by decide +kernel))) (fun _ h9 => h9) rfl (by decide +kernel) rfl rfl (Nat.le_of_ble_eq_true rfl) dX3_init_19 (fun H locs hP hD hS => ?_)
  have hP : va_P D ts_vc [(h0, .inr (2, [(.ref a1), (.int 0), (.int 0), .int 0, .int 0, .int 0])), (a1, .inl (cA, 120, .inl z0))] H := hP
  have hD : va_D A [(h0, .inr (2, [(.ref a1), (.int 0), (.int 0), .int 0, .int 0, .int 0])), (a1, .inl (cA, 120, .inl z0))] := hD
  refine lv_aload_n hx hb dX3_init_22 rfl (lv_at hl 0 rfl) ?_
  refine lv_iconst (v := 0) hx hb dX3_init_23 (by decide) ?_
  refine va_put (D := D) (ci := 2) (v := (.int 0)) (ty := .int) (C := RX3) (T := TX3) (N := 6) hx hb hts hin0 tyX3 tyX3_ok nmX3 hown hK hP hD hS 0 rfl rfl 3 (by decide) (tb (.fieldLink RX3 22 "TollSills$Tape" "place" "I") (ts_wx_in (q := 1105) (by decide +kernel))) (fun _ h9 => h9) rfl (by decide +kernel) rfl rfl (Nat.le_of_ble_eq_true rfl) dX3_init_24 (fun H locs hP hD hS => ?_)
  have hP : va_P D ts_vc [(h0, .inr (2, [(.ref a1), (.int 0), (.int 0), (.int 0), .int 0, .int 0])), (a1, .inl (cA, 120, .inl z0))] H := hP
  have hD : va_D A [(h0, .inr (2, [(.ref a1), (.int 0), (.int 0), (.int 0), .int 0, .int 0])), (a1, .inl (cA, 120, .inl z0))] := hD
  refine lv_aload_n hx hb dX3_init_27 rfl (lv_at hl 0 rfl) ?_
  refine lv_iconst (v := 0) hx hb dX3_init_28 (by decide) ?_
  refine va_put (D := D) (ci := 2) (v := (.int 0)) (ty := .int) (C := RX3) (T := TX3) (N := 6) hx hb hts hin0 tyX3 tyX3_ok nmX3 hown hK hP hD hS 0 rfl rfl 4 (by decide) (tb (.fieldLink RX3 25 "TollSills$Tape" "end" "I") (ts_wx_in (q := 1106) (by decide +kernel))) (fun _ h9 => h9) rfl (by decide +kernel) rfl rfl (Nat.le_of_ble_eq_true rfl) dX3_init_29 (fun H locs hP hD hS => ?_)
  have hP : va_P D ts_vc [(h0, .inr (2, [(.ref a1), (.int 0), (.int 0), (.int 0), (.int 0), .int 0])), (a1, .inl (cA, 120, .inl z0))] H := hP
  have hD : va_D A [(h0, .inr (2, [(.ref a1), (.int 0), (.int 0), (.int 0), (.int 0), .int 0])), (a1, .inl (cA, 120, .inl z0))] := hD
  refine lv_aload_n hx hb dX3_init_32 rfl (lv_at hl 0 rfl) ?_
  refine lv_iconst (v := 0) hx hb dX3_init_33 (by decide) ?_
  refine va_put (D := D) (ci := 2) (v := (.int 0)) (ty := .int) (C := RX3) (T := TX3) (N := 6) hx hb hts hin0 tyX3 tyX3_ok nmX3 hown hK hP hD hS 0 rfl rfl 5 (by decide) (tb (.fieldLink RX3 28 "TollSills$Tape" "number" "I") (ts_wx_in (q := 1107) (by decide +kernel))) (fun _ h9 => h9) rfl (by decide +kernel) rfl rfl (Nat.le_of_ble_eq_true rfl) dX3_init_34 (fun H locs hP hD hS => ?_)
  have hP : va_P D ts_vc [(h0, .inr (2, [(.ref a1), (.int 0), (.int 0), (.int 0), (.int 0), (.int 0)])), (a1, .inl (cA, 120, .inl z0))] H := hP
  have hD : va_D A [(h0, .inr (2, [(.ref a1), (.int 0), (.int 0), (.int 0), (.int 0), (.int 0)])), (a1, .inl (cA, 120, .inl z0))] := hD
  refine W.widen (k := 1) (n := 120) (Nat.le_of_ble_eq_true rfl) (Nat.le_of_ble_eq_true rfl) ?_
  exact W.vret hx hb hr (fun t ht hW => ⟨⟨fun k => [0, a1].getD k 0, rfl, trivial, by rw [ht]; exact hP, va_K.moved hW.alike hK, hD⟩, hS.F ht⟩) hS.2.2 dX3_init_37 hlocks
set_option maxHeartbeats 4000000 in
set_option maxRecDepth 100000 in
theorem c_X1_init (l : Launch) (D : va_G) (cA cS : ClassId) (h0 sz : Nat) : Met l yX1_init (ts_wl m_X1) ({ frames := 1, cells := 10, slots := 106, locals := 39 }) (va_Pc [.ref h0] (fun U => U.heap.size = sz ∧ va_P D ts_vc [(h0, .inr (0, [.null, .int 0, .int 0, .int 0, .int 0, .null, .null, .null, .null, .null, .int 0, .null, .null, .null, .null]))] U.heap ∧ va_K D ts_vc [(cA, .int), (cS, .object "java/lang/String")] U ∧ va_D (fun _ => True) [(h0, .inr (0, [.null, .int 0, .int 0, .int 0, .int 0, .null, .null, .null, .null, .null, .int 0, .null, .null, .null, .null]))])) (va_Qv (fun u : (Nat → Nat) × (Nat → Int32) => ∀ j, j < 10 → u.2 j = -1) (fun u t => va_P D ts_vc (wwQ cA h0 u.1 u.2) t.heap ∧ va_K D ts_vc [(cA, .int), (cS, .object "java/lang/String")] t ∧ va_D (va_A [(h0, .inr (0, [.null, .int 0, .int 0, .int 0, .int 0, .null, .null, .null, .null, .null, .int 0, .null, .null, .null, .null]))] sz) (wwQ cA h0 u.1 u.2)) (va_A [(h0, .inr (0, [.null, .int 0, .int 0, .int 0, .int 0, .null, .null, .null, .null, .null, .int 0, .null, .null, .null, .null]))] sz)) 10 106 (va_A [(h0, .inr (0, [.null, .int 0, .int 0, .int 0, .int 0, .null, .null, .null, .null, .null, .int 0, .null, .null, .null, .null]))] sz) := by
  refine Met.ofW (cc := cX1_init) (maxL := 2) (ret := none) (by decide) rfl ?_
  intro p e s m args below meth c s₁ B hml hv
  obtain ⟨rfl, hsz, hP, hK, hD0⟩ := hv
  have hx := B.exec
  have hb := B.bytes
  have hr := B.returns
  have hts := atoms_spec (ws := ts_wl m_X1) B.pre
  have tb : ∀ w ∈ ts_TB, w.before #[Value.ref h0] s = true := fun w h => hts w (List.mem_cons_of_mem _ h)
  have hin0 : ∀ w ∈ u_ws RX1 TX1 15, w ∈ ts_wl m_X1 := fun w h => List.mem_cons_of_mem _ (ts_lw_in (k := 0) (by decide) w h)
  have hown : s.vm.findClass RX1 = some m.cls := findClass_of_methodNamed B.named
  have hlocks := B.notSynchronized
  have hin : meth.name = "<init>" := (name_of_methodNamed B.named B.method).1
  subst hsz
  have hD := hD0.self (sz := s.heap.size)
  generalize hAe : va_A [(h0, .inr (0, [.null, .int 0, .int 0, .int 0, .int 0, .null, .null, .null, .null, .null, .int 0, .null, .null, .null, .null]))] s.heap.size = A at hD ⊢
  have hA : ∀ q : Nat, s.heap.size ≤ q → A q := fun q h => by rw [← hAe]; exact Or.inr h
  have hS : va_S A s.heap s.heap [] := va_S.rf
  have hP : va_P D ts_vc [(h0, .inr (0, [.null, .int 0, .int 0, .int 0, .int 0, .null, .null, .null, .null, .null, .int 0, .null, .null, .null, .null]))] s.heap := hP
  have hl := lv_entry ([.ref h0]) (n := 2) (Nat.le_of_ble_eq_true rfl)
  rw [lg_entry_eq]
  generalize (lg_sl ([.ref h0]) ++ List.replicate (2 - (lg_sl ([.ref h0])).length) Slot.unset).toArray = ls at hl ⊢
  have hl : lv_has ls 2 [(0, .ref h0)] := hl
  refine lv_aload_n hx hb dX1_init_0 rfl (lv_at hl 0 rfl) ?_
  refine W.objInit hx hb hown (tb (.methodLink RX1 3 objectInit) (ts_wx_in (q := 1027) (by decide +kernel))) (tb (.instanceMethod objectInit) (ts_wx_in (q := 1020) (by decide +kernel))) (tb (.code objectInit ⟨#[0xb1]⟩ 1 none) (ts_wx_in (q := 1021) (by decide +kernel))) rfl (by rw [hml]; exact hl.1) rfl dX1_init_1 (Nat.le_of_ble_eq_true rfl) (Nat.le_of_ble_eq_true rfl) ?_
  refine W.eq (g2 := F0 m 4 ls []) rfl ?_
  refine lv_aload_n hx hb dX1_init_4 rfl (lv_at hl 0 rfl) ?_
  refine lv_bipush (v := 6) hx hb dX1_init_5 (by decide) ?_
  refine n_newi (N := 6) hx hb (tb (.arrayClass .int) (ts_wx_in (q := 1094) (by decide +kernel))) hK rfl hP hD hS hA (by decide) (by decide) (Nat.le_of_ble_eq_true rfl) (Nat.le_of_ble_eq_true rfl) (Nat.le_of_ble_eq_true rfl) dX1_init_7 (fun a1 H hP hD hS => ?_)
  have hP : va_P D ts_vc [(h0, .inr (0, [.null, .int 0, .int 0, .int 0, .int 0, .null, .null, .null, .null, .null, .int 0, .null, .null, .null, .null])), (a1, .inl (cA, 6, .inl z0))] H := hP
  have hD : va_D A [(h0, .inr (0, [.null, .int 0, .int 0, .int 0, .int 0, .null, .null, .null, .null, .null, .int 0, .null, .null, .null, .null])), (a1, .inl (cA, 6, .inl z0))] := hD
  refine va_putF (D := D) (ci := 0) (v := (.ref a1)) (ty := (.array .int)) (C := RX1) (T := TX1) (N := 15) hx hb hts hin0 tyX1 tyX1_ok nmX1 hown hK hP hD hS 0 rfl rfl 0 (by decide) (tb (.fieldLink RX1 9 "TollSills$Quarter" "crossings" "[I") (ts_wx_in (q := 1028) (by decide +kernel))) (fun _ h9 => h9) rfl hin rfl (by decide +kernel) rfl rfl (Nat.le_of_ble_eq_true rfl) dX1_init_9 (fun H locs hP hD hS => ?_)
  have hP : va_P D ts_vc [(h0, .inr (0, [(.ref a1), .int 0, .int 0, .int 0, .int 0, .null, .null, .null, .null, .null, .int 0, .null, .null, .null, .null])), (a1, .inl (cA, 6, .inl z0))] H := hP
  have hD : va_D A [(h0, .inr (0, [(.ref a1), .int 0, .int 0, .int 0, .int 0, .null, .null, .null, .null, .null, .int 0, .null, .null, .null, .null])), (a1, .inl (cA, 6, .inl z0))] := hD
  refine lv_aload_n hx hb dX1_init_12 rfl (lv_at hl 0 rfl) ?_
  refine lv_iconst (v := 0) hx hb dX1_init_13 (by decide) ?_
  refine va_put (D := D) (ci := 0) (v := (.int 0)) (ty := .int) (C := RX1) (T := TX1) (N := 15) hx hb hts hin0 tyX1 tyX1_ok nmX1 hown hK hP hD hS 0 rfl rfl 1 (by decide) (tb (.fieldLink RX1 15 "TollSills$Quarter" "lost" "I") (ts_wx_in (q := 1031) (by decide +kernel))) (fun _ h9 => h9) rfl (by decide +kernel) rfl rfl (Nat.le_of_ble_eq_true rfl) dX1_init_14 (fun H locs hP hD hS => ?_)
  have hP : va_P D ts_vc [(h0, .inr (0, [(.ref a1), (.int 0), .int 0, .int 0, .int 0, .null, .null, .null, .null, .null, .int 0, .null, .null, .null, .null])), (a1, .inl (cA, 6, .inl z0))] H := hP
  have hD : va_D A [(h0, .inr (0, [(.ref a1), (.int 0), .int 0, .int 0, .int 0, .null, .null, .null, .null, .null, .int 0, .null, .null, .null, .null])), (a1, .inl (cA, 6, .inl z0))] := hD
  refine lv_aload_n hx hb dX1_init_17 rfl (lv_at hl 0 rfl) ?_
  refine lv_iconst (v := 0) hx hb dX1_init_18 (by decide) ?_
  refine va_put (D := D) (ci := 0) (v := (.int 0)) (ty := .int) (C := RX1) (T := TX1) (N := 15) hx hb hts hin0 tyX1 tyX1_ok nmX1 hown hK hP hD hS 0 rfl rfl 2 (by decide) (tb (.fieldLink RX1 19 "TollSills$Quarter" "day" "I") (ts_wx_in (q := 1033) (by decide +kernel))) (fun _ h9 => h9) rfl (by decide +kernel) rfl rfl (Nat.le_of_ble_eq_true rfl) dX1_init_19 (fun H locs hP hD hS => ?_)
  have hP : va_P D ts_vc [(h0, .inr (0, [(.ref a1), (.int 0), (.int 0), .int 0, .int 0, .null, .null, .null, .null, .null, .int 0, .null, .null, .null, .null])), (a1, .inl (cA, 6, .inl z0))] H := hP
  have hD : va_D A [(h0, .inr (0, [(.ref a1), (.int 0), (.int 0), .int 0, .int 0, .null, .null, .null, .null, .null, .int 0, .null, .null, .null, .null])), (a1, .inl (cA, 6, .inl z0))] := hD
  refine lv_aload_n hx hb dX1_init_22 rfl (lv_at hl 0 rfl) ?_
  refine lv_iconst (v := 1) hx hb dX1_init_23 (by decide) ?_
  refine va_put (D := D) (ci := 0) (v := (.int 1)) (ty := .int) (C := RX1) (T := TX1) (N := 15) hx hb hts hin0 tyX1 tyX1_ok nmX1 hown hK hP hD hS 0 rfl rfl 3 (by decide) (tb (.fieldLink RX1 22 "TollSills$Quarter" "z" "I") (ts_wx_in (q := 1035) (by decide +kernel))) (fun _ h9 => h9) rfl (by decide +kernel) rfl rfl (Nat.le_of_ble_eq_true rfl) dX1_init_24 (fun H locs hP hD hS => ?_)
  have hP : va_P D ts_vc [(h0, .inr (0, [(.ref a1), (.int 0), (.int 0), (.int 1), .int 0, .null, .null, .null, .null, .null, .int 0, .null, .null, .null, .null])), (a1, .inl (cA, 6, .inl z0))] H := hP
  have hD : va_D A [(h0, .inr (0, [(.ref a1), (.int 0), (.int 0), (.int 1), .int 0, .null, .null, .null, .null, .null, .int 0, .null, .null, .null, .null])), (a1, .inl (cA, 6, .inl z0))] := hD
  refine lv_aload_n hx hb dX1_init_27 rfl (lv_at hl 0 rfl) ?_
  refine lv_iconst (v := 0) hx hb dX1_init_28 (by decide) ?_
  refine va_put (D := D) (ci := 0) (v := (.int 0)) (ty := .int) (C := RX1) (T := TX1) (N := 15) hx hb hts hin0 tyX1 tyX1_ok nmX1 hown hK hP hD hS 0 rfl rfl 4 (by decide) (tb (.fieldLink RX1 25 "TollSills$Quarter" "sills" "I") (ts_wx_in (q := 1037) (by decide +kernel))) (fun _ h9 => h9) rfl (by decide +kernel) rfl rfl (Nat.le_of_ble_eq_true rfl) dX1_init_29 (fun H locs hP hD hS => ?_)
  have hP : va_P D ts_vc [(h0, .inr (0, [(.ref a1), (.int 0), (.int 0), (.int 1), (.int 0), .null, .null, .null, .null, .null, .int 0, .null, .null, .null, .null])), (a1, .inl (cA, 6, .inl z0))] H := hP
  have hD : va_D A [(h0, .inr (0, [(.ref a1), (.int 0), (.int 0), (.int 1), (.int 0), .null, .null, .null, .null, .null, .int 0, .null, .null, .null, .null])), (a1, .inl (cA, 6, .inl z0))] := hD
  refine lv_aload_n hx hb dX1_init_32 rfl (lv_at hl 0 rfl) ?_
  refine lv_bipush (v := 8) hx hb dX1_init_33 (by decide) ?_
  refine n_newi (N := 8) hx hb (tb (.arrayClass .int) (ts_wx_in (q := 1094) (by decide +kernel))) hK rfl hP hD hS hA (by decide) (by decide) (Nat.le_of_ble_eq_true rfl) (Nat.le_of_ble_eq_true rfl) (Nat.le_of_ble_eq_true rfl) dX1_init_35 (fun a2 H hP hD hS => ?_)
  have hP : va_P D ts_vc [(h0, .inr (0, [(.ref a1), (.int 0), (.int 0), (.int 1), (.int 0), .null, .null, .null, .null, .null, .int 0, .null, .null, .null, .null])), (a1, .inl (cA, 6, .inl z0)), (a2, .inl (cA, 8, .inl z0))] H := hP
  have hD : va_D A [(h0, .inr (0, [(.ref a1), (.int 0), (.int 0), (.int 1), (.int 0), .null, .null, .null, .null, .null, .int 0, .null, .null, .null, .null])), (a1, .inl (cA, 6, .inl z0)), (a2, .inl (cA, 8, .inl z0))] := hD
  refine va_putF (D := D) (ci := 0) (v := (.ref a2)) (ty := (.array .int)) (C := RX1) (T := TX1) (N := 15) hx hb hts hin0 tyX1 tyX1_ok nmX1 hown hK hP hD hS 0 rfl rfl 5 (by decide) (tb (.fieldLink RX1 28 "TollSills$Quarter" "kindOf" "[I") (ts_wx_in (q := 1040) (by decide +kernel))) (fun _ h9 => h9) rfl hin rfl (by decide +kernel) rfl rfl (Nat.le_of_ble_eq_true rfl) dX1_init_37 (fun H locs hP hD hS => ?_)
  have hP : va_P D ts_vc [(h0, .inr (0, [(.ref a1), (.int 0), (.int 0), (.int 1), (.int 0), (.ref a2), .null, .null, .null, .null, .int 0, .null, .null, .null, .null])), (a1, .inl (cA, 6, .inl z0)), (a2, .inl (cA, 8, .inl z0))] H := hP
  have hD : va_D A [(h0, .inr (0, [(.ref a1), (.int 0), (.int 0), (.int 1), (.int 0), (.ref a2), .null, .null, .null, .null, .int 0, .null, .null, .null, .null])), (a1, .inl (cA, 6, .inl z0)), (a2, .inl (cA, 8, .inl z0))] := hD
  refine lv_aload_n hx hb dX1_init_40 rfl (lv_at hl 0 rfl) ?_
  refine lv_bipush (v := 8) hx hb dX1_init_41 (by decide) ?_
  refine n_newi (N := 8) hx hb (tb (.arrayClass .int) (ts_wx_in (q := 1094) (by decide +kernel))) hK rfl hP hD hS hA (by decide) (by decide) (Nat.le_of_ble_eq_true rfl) (Nat.le_of_ble_eq_true rfl) (Nat.le_of_ble_eq_true rfl) dX1_init_43 (fun a3 H hP hD hS => ?_)
  have hP : va_P D ts_vc [(h0, .inr (0, [(.ref a1), (.int 0), (.int 0), (.int 1), (.int 0), (.ref a2), .null, .null, .null, .null, .int 0, .null, .null, .null, .null])), (a1, .inl (cA, 6, .inl z0)), (a2, .inl (cA, 8, .inl z0)), (a3, .inl (cA, 8, .inl z0))] H := hP
  have hD : va_D A [(h0, .inr (0, [(.ref a1), (.int 0), (.int 0), (.int 1), (.int 0), (.ref a2), .null, .null, .null, .null, .int 0, .null, .null, .null, .null])), (a1, .inl (cA, 6, .inl z0)), (a2, .inl (cA, 8, .inl z0)), (a3, .inl (cA, 8, .inl z0))] := hD
  refine va_putF (D := D) (ci := 0) (v := (.ref a3)) (ty := (.array .int)) (C := RX1) (T := TX1) (N := 15) hx hb hts hin0 tyX1 tyX1_ok nmX1 hown hK hP hD hS 0 rfl rfl 6 (by decide) (tb (.fieldLink RX1 31 "TollSills$Quarter" "wearOf" "[I") (ts_wx_in (q := 1042) (by decide +kernel))) (fun _ h9 => h9) rfl hin rfl (by decide +kernel) rfl rfl (Nat.le_of_ble_eq_true rfl) dX1_init_45 (fun H locs hP hD hS => ?_)
  have hP : va_P D ts_vc [(h0, .inr (0, [(.ref a1), (.int 0), (.int 0), (.int 1), (.int 0), (.ref a2), (.ref a3), .null, .null, .null, .int 0, .null, .null, .null, .null])), (a1, .inl (cA, 6, .inl z0)), (a2, .inl (cA, 8, .inl z0)), (a3, .inl (cA, 8, .inl z0))] H := hP
  have hD : va_D A [(h0, .inr (0, [(.ref a1), (.int 0), (.int 0), (.int 1), (.int 0), (.ref a2), (.ref a3), .null, .null, .null, .int 0, .null, .null, .null, .null])), (a1, .inl (cA, 6, .inl z0)), (a2, .inl (cA, 8, .inl z0)), (a3, .inl (cA, 8, .inl z0))] := hD
  refine lv_aload_n hx hb dX1_init_48 rfl (lv_at hl 0 rfl) ?_
  refine lv_bipush (v := 8) hx hb dX1_init_49 (by decide) ?_
  refine n_newi (N := 8) hx hb (tb (.arrayClass .int) (ts_wx_in (q := 1094) (by decide +kernel))) hK rfl hP hD hS hA (by decide) (by decide) (Nat.le_of_ble_eq_true rfl) (Nat.le_of_ble_eq_true rfl) (Nat.le_of_ble_eq_true rfl) dX1_init_51 (fun a4 H hP hD hS => ?_)
  have hP : va_P D ts_vc [(h0, .inr (0, [(.ref a1), (.int 0), (.int 0), (.int 1), (.int 0), (.ref a2), (.ref a3), .null, .null, .null, .int 0, .null, .null, .null, .null])), (a1, .inl (cA, 6, .inl z0)), (a2, .inl (cA, 8, .inl z0)), (a3, .inl (cA, 8, .inl z0)), (a4, .inl (cA, 8, .inl z0))] H := hP
  have hD : va_D A [(h0, .inr (0, [(.ref a1), (.int 0), (.int 0), (.int 1), (.int 0), (.ref a2), (.ref a3), .null, .null, .null, .int 0, .null, .null, .null, .null])), (a1, .inl (cA, 6, .inl z0)), (a2, .inl (cA, 8, .inl z0)), (a3, .inl (cA, 8, .inl z0)), (a4, .inl (cA, 8, .inl z0))] := hD
  refine va_putF (D := D) (ci := 0) (v := (.ref a4)) (ty := (.array .int)) (C := RX1) (T := TX1) (N := 15) hx hb hts hin0 tyX1 tyX1_ok nmX1 hown hK hP hD hS 0 rfl rfl 7 (by decide) (tb (.fieldLink RX1 34 "TollSills$Quarter" "mendedOf" "[I") (ts_wx_in (q := 1044) (by decide +kernel))) (fun _ h9 => h9) rfl hin rfl (by decide +kernel) rfl rfl (Nat.le_of_ble_eq_true rfl) dX1_init_53 (fun H locs hP hD hS => ?_)
  have hP : va_P D ts_vc [(h0, .inr (0, [(.ref a1), (.int 0), (.int 0), (.int 1), (.int 0), (.ref a2), (.ref a3), (.ref a4), .null, .null, .int 0, .null, .null, .null, .null])), (a1, .inl (cA, 6, .inl z0)), (a2, .inl (cA, 8, .inl z0)), (a3, .inl (cA, 8, .inl z0)), (a4, .inl (cA, 8, .inl z0))] H := hP
  have hD : va_D A [(h0, .inr (0, [(.ref a1), (.int 0), (.int 0), (.int 1), (.int 0), (.ref a2), (.ref a3), (.ref a4), .null, .null, .int 0, .null, .null, .null, .null])), (a1, .inl (cA, 6, .inl z0)), (a2, .inl (cA, 8, .inl z0)), (a3, .inl (cA, 8, .inl z0)), (a4, .inl (cA, 8, .inl z0))] := hD
  refine lv_aload_n hx hb dX1_init_56 rfl (lv_at hl 0 rfl) ?_
  refine lv_bipush (v := 8) hx hb dX1_init_57 (by decide) ?_
  refine n_newi (N := 8) hx hb (tb (.arrayClass .int) (ts_wx_in (q := 1094) (by decide +kernel))) hK rfl hP hD hS hA (by decide) (by decide) (Nat.le_of_ble_eq_true rfl) (Nat.le_of_ble_eq_true rfl) (Nat.le_of_ble_eq_true rfl) dX1_init_59 (fun a5 H hP hD hS => ?_)
  have hP : va_P D ts_vc [(h0, .inr (0, [(.ref a1), (.int 0), (.int 0), (.int 1), (.int 0), (.ref a2), (.ref a3), (.ref a4), .null, .null, .int 0, .null, .null, .null, .null])), (a1, .inl (cA, 6, .inl z0)), (a2, .inl (cA, 8, .inl z0)), (a3, .inl (cA, 8, .inl z0)), (a4, .inl (cA, 8, .inl z0)), (a5, .inl (cA, 8, .inl z0))] H := hP
  have hD : va_D A [(h0, .inr (0, [(.ref a1), (.int 0), (.int 0), (.int 1), (.int 0), (.ref a2), (.ref a3), (.ref a4), .null, .null, .int 0, .null, .null, .null, .null])), (a1, .inl (cA, 6, .inl z0)), (a2, .inl (cA, 8, .inl z0)), (a3, .inl (cA, 8, .inl z0)), (a4, .inl (cA, 8, .inl z0)), (a5, .inl (cA, 8, .inl z0))] := hD
  refine va_putF (D := D) (ci := 0) (v := (.ref a5)) (ty := (.array .int)) (C := RX1) (T := TX1) (N := 15) hx hb hts hin0 tyX1 tyX1_ok nmX1 hown hK hP hD hS 0 rfl rfl 8 (by decide) (tb (.fieldLink RX1 37 "TollSills$Quarter" "keptBy" "[I") (ts_wx_in (q := 1047) (by decide +kernel))) (fun _ h9 => h9) rfl hin rfl (by decide +kernel) rfl rfl (Nat.le_of_ble_eq_true rfl) dX1_init_61 (fun H locs hP hD hS => ?_)
  have hP : va_P D ts_vc [(h0, .inr (0, [(.ref a1), (.int 0), (.int 0), (.int 1), (.int 0), (.ref a2), (.ref a3), (.ref a4), (.ref a5), .null, .int 0, .null, .null, .null, .null])), (a1, .inl (cA, 6, .inl z0)), (a2, .inl (cA, 8, .inl z0)), (a3, .inl (cA, 8, .inl z0)), (a4, .inl (cA, 8, .inl z0)), (a5, .inl (cA, 8, .inl z0))] H := hP
  have hD : va_D A [(h0, .inr (0, [(.ref a1), (.int 0), (.int 0), (.int 1), (.int 0), (.ref a2), (.ref a3), (.ref a4), (.ref a5), .null, .int 0, .null, .null, .null, .null])), (a1, .inl (cA, 6, .inl z0)), (a2, .inl (cA, 8, .inl z0)), (a3, .inl (cA, 8, .inl z0)), (a4, .inl (cA, 8, .inl z0)), (a5, .inl (cA, 8, .inl z0))] := hD
  refine lv_aload_n hx hb dX1_init_64 rfl (lv_at hl 0 rfl) ?_
  refine lv_bipush (v := 40) hx hb dX1_init_65 (by decide) ?_
  refine n_newi (N := 40) hx hb (tb (.arrayClass .int) (ts_wx_in (q := 1094) (by decide +kernel))) hK rfl hP hD hS hA (by decide) (by decide) (Nat.le_of_ble_eq_true rfl) (Nat.le_of_ble_eq_true rfl) (Nat.le_of_ble_eq_true rfl) dX1_init_67 (fun a6 H hP hD hS => ?_)
  have hP : va_P D ts_vc [(h0, .inr (0, [(.ref a1), (.int 0), (.int 0), (.int 1), (.int 0), (.ref a2), (.ref a3), (.ref a4), (.ref a5), .null, .int 0, .null, .null, .null, .null])), (a1, .inl (cA, 6, .inl z0)), (a2, .inl (cA, 8, .inl z0)), (a3, .inl (cA, 8, .inl z0)), (a4, .inl (cA, 8, .inl z0)), (a5, .inl (cA, 8, .inl z0)), (a6, .inl (cA, 40, .inl z0))] H := hP
  have hD : va_D A [(h0, .inr (0, [(.ref a1), (.int 0), (.int 0), (.int 1), (.int 0), (.ref a2), (.ref a3), (.ref a4), (.ref a5), .null, .int 0, .null, .null, .null, .null])), (a1, .inl (cA, 6, .inl z0)), (a2, .inl (cA, 8, .inl z0)), (a3, .inl (cA, 8, .inl z0)), (a4, .inl (cA, 8, .inl z0)), (a5, .inl (cA, 8, .inl z0)), (a6, .inl (cA, 40, .inl z0))] := hD
  refine va_putF (D := D) (ci := 0) (v := (.ref a6)) (ty := (.array .int)) (C := RX1) (T := TX1) (N := 15) hx hb hts hin0 tyX1 tyX1_ok nmX1 hown hK hP hD hS 0 rfl rfl 9 (by decide) (tb (.fieldLink RX1 40 "TollSills$Quarter" "kept" "[I") (ts_wx_in (q := 1050) (by decide +kernel))) (fun _ h9 => h9) rfl hin rfl (by decide +kernel) rfl rfl (Nat.le_of_ble_eq_true rfl) dX1_init_69 (fun H locs hP hD hS => ?_)
  have hP : va_P D ts_vc [(h0, .inr (0, [(.ref a1), (.int 0), (.int 0), (.int 1), (.int 0), (.ref a2), (.ref a3), (.ref a4), (.ref a5), (.ref a6), .int 0, .null, .null, .null, .null])), (a1, .inl (cA, 6, .inl z0)), (a2, .inl (cA, 8, .inl z0)), (a3, .inl (cA, 8, .inl z0)), (a4, .inl (cA, 8, .inl z0)), (a5, .inl (cA, 8, .inl z0)), (a6, .inl (cA, 40, .inl z0))] H := hP
  have hD : va_D A [(h0, .inr (0, [(.ref a1), (.int 0), (.int 0), (.int 1), (.int 0), (.ref a2), (.ref a3), (.ref a4), (.ref a5), (.ref a6), .int 0, .null, .null, .null, .null])), (a1, .inl (cA, 6, .inl z0)), (a2, .inl (cA, 8, .inl z0)), (a3, .inl (cA, 8, .inl z0)), (a4, .inl (cA, 8, .inl z0)), (a5, .inl (cA, 8, .inl z0)), (a6, .inl (cA, 40, .inl z0))] := hD
  refine lv_aload_n hx hb dX1_init_72 rfl (lv_at hl 0 rfl) ?_
  refine lv_iconst (v := 0) hx hb dX1_init_73 (by decide) ?_
  refine va_put (D := D) (ci := 0) (v := (.int 0)) (ty := .int) (C := RX1) (T := TX1) (N := 15) hx hb hts hin0 tyX1 tyX1_ok nmX1 hown hK hP hD hS 0 rfl rfl 10 (by decide) (tb (.fieldLink RX1 43 "TollSills$Quarter" "people" "I") (ts_wx_in (q := 1051) (by decide +kernel))) (fun _ h9 => h9) rfl (by decide +kernel) rfl rfl (Nat.le_of_ble_eq_true rfl) dX1_init_74 (fun H locs hP hD hS => ?_)
  have hP : va_P D ts_vc [(h0, .inr (0, [(.ref a1), (.int 0), (.int 0), (.int 1), (.int 0), (.ref a2), (.ref a3), (.ref a4), (.ref a5), (.ref a6), (.int 0), .null, .null, .null, .null])), (a1, .inl (cA, 6, .inl z0)), (a2, .inl (cA, 8, .inl z0)), (a3, .inl (cA, 8, .inl z0)), (a4, .inl (cA, 8, .inl z0)), (a5, .inl (cA, 8, .inl z0)), (a6, .inl (cA, 40, .inl z0))] H := hP
  have hD : va_D A [(h0, .inr (0, [(.ref a1), (.int 0), (.int 0), (.int 1), (.int 0), (.ref a2), (.ref a3), (.ref a4), (.ref a5), (.ref a6), (.int 0), .null, .null, .null, .null])), (a1, .inl (cA, 6, .inl z0)), (a2, .inl (cA, 8, .inl z0)), (a3, .inl (cA, 8, .inl z0)), (a4, .inl (cA, 8, .inl z0)), (a5, .inl (cA, 8, .inl z0)), (a6, .inl (cA, 40, .inl z0))] := hD
  refine lv_aload_n hx hb dX1_init_77 rfl (lv_at hl 0 rfl) ?_
  refine lv_bipush (v := 6) hx hb dX1_init_78 (by decide) ?_
  refine n_newi (N := 6) hx hb (tb (.arrayClass .int) (ts_wx_in (q := 1094) (by decide +kernel))) hK rfl hP hD hS hA (by decide) (by decide) (Nat.le_of_ble_eq_true rfl) (Nat.le_of_ble_eq_true rfl) (Nat.le_of_ble_eq_true rfl) dX1_init_80 (fun a7 H hP hD hS => ?_)
  have hP : va_P D ts_vc [(h0, .inr (0, [(.ref a1), (.int 0), (.int 0), (.int 1), (.int 0), (.ref a2), (.ref a3), (.ref a4), (.ref a5), (.ref a6), (.int 0), .null, .null, .null, .null])), (a1, .inl (cA, 6, .inl z0)), (a2, .inl (cA, 8, .inl z0)), (a3, .inl (cA, 8, .inl z0)), (a4, .inl (cA, 8, .inl z0)), (a5, .inl (cA, 8, .inl z0)), (a6, .inl (cA, 40, .inl z0)), (a7, .inl (cA, 6, .inl z0))] H := hP
  have hD : va_D A [(h0, .inr (0, [(.ref a1), (.int 0), (.int 0), (.int 1), (.int 0), (.ref a2), (.ref a3), (.ref a4), (.ref a5), (.ref a6), (.int 0), .null, .null, .null, .null])), (a1, .inl (cA, 6, .inl z0)), (a2, .inl (cA, 8, .inl z0)), (a3, .inl (cA, 8, .inl z0)), (a4, .inl (cA, 8, .inl z0)), (a5, .inl (cA, 8, .inl z0)), (a6, .inl (cA, 40, .inl z0)), (a7, .inl (cA, 6, .inl z0))] := hD
  refine va_putF (D := D) (ci := 0) (v := (.ref a7)) (ty := (.array .int)) (C := RX1) (T := TX1) (N := 15) hx hb hts hin0 tyX1 tyX1_ok nmX1 hown hK hP hD hS 0 rfl rfl 11 (by decide) (tb (.fieldLink RX1 46 "TollSills$Quarter" "has" "[I") (ts_wx_in (q := 1053) (by decide +kernel))) (fun _ h9 => h9) rfl hin rfl (by decide +kernel) rfl rfl (Nat.le_of_ble_eq_true rfl) dX1_init_82 (fun H locs hP hD hS => ?_)
  have hP : va_P D ts_vc [(h0, .inr (0, [(.ref a1), (.int 0), (.int 0), (.int 1), (.int 0), (.ref a2), (.ref a3), (.ref a4), (.ref a5), (.ref a6), (.int 0), (.ref a7), .null, .null, .null])), (a1, .inl (cA, 6, .inl z0)), (a2, .inl (cA, 8, .inl z0)), (a3, .inl (cA, 8, .inl z0)), (a4, .inl (cA, 8, .inl z0)), (a5, .inl (cA, 8, .inl z0)), (a6, .inl (cA, 40, .inl z0)), (a7, .inl (cA, 6, .inl z0))] H := hP
  have hD : va_D A [(h0, .inr (0, [(.ref a1), (.int 0), (.int 0), (.int 1), (.int 0), (.ref a2), (.ref a3), (.ref a4), (.ref a5), (.ref a6), (.int 0), (.ref a7), .null, .null, .null])), (a1, .inl (cA, 6, .inl z0)), (a2, .inl (cA, 8, .inl z0)), (a3, .inl (cA, 8, .inl z0)), (a4, .inl (cA, 8, .inl z0)), (a5, .inl (cA, 8, .inl z0)), (a6, .inl (cA, 40, .inl z0)), (a7, .inl (cA, 6, .inl z0))] := hD
  refine lv_aload_n hx hb dX1_init_85 rfl (lv_at hl 0 rfl) ?_
  refine lv_bipush (v := 6) hx hb dX1_init_86 (by decide) ?_
  refine n_newi (N := 6) hx hb (tb (.arrayClass .int) (ts_wx_in (q := 1094) (by decide +kernel))) hK rfl hP hD hS hA (by decide) (by decide) (Nat.le_of_ble_eq_true rfl) (Nat.le_of_ble_eq_true rfl) (Nat.le_of_ble_eq_true rfl) dX1_init_88 (fun a8 H hP hD hS => ?_)
  have hP : va_P D ts_vc [(h0, .inr (0, [(.ref a1), (.int 0), (.int 0), (.int 1), (.int 0), (.ref a2), (.ref a3), (.ref a4), (.ref a5), (.ref a6), (.int 0), (.ref a7), .null, .null, .null])), (a1, .inl (cA, 6, .inl z0)), (a2, .inl (cA, 8, .inl z0)), (a3, .inl (cA, 8, .inl z0)), (a4, .inl (cA, 8, .inl z0)), (a5, .inl (cA, 8, .inl z0)), (a6, .inl (cA, 40, .inl z0)), (a7, .inl (cA, 6, .inl z0)), (a8, .inl (cA, 6, .inl z0))] H := hP
  have hD : va_D A [(h0, .inr (0, [(.ref a1), (.int 0), (.int 0), (.int 1), (.int 0), (.ref a2), (.ref a3), (.ref a4), (.ref a5), (.ref a6), (.int 0), (.ref a7), .null, .null, .null])), (a1, .inl (cA, 6, .inl z0)), (a2, .inl (cA, 8, .inl z0)), (a3, .inl (cA, 8, .inl z0)), (a4, .inl (cA, 8, .inl z0)), (a5, .inl (cA, 8, .inl z0)), (a6, .inl (cA, 40, .inl z0)), (a7, .inl (cA, 6, .inl z0)), (a8, .inl (cA, 6, .inl z0))] := hD
  refine va_putF (D := D) (ci := 0) (v := (.ref a8)) (ty := (.array .int)) (C := RX1) (T := TX1) (N := 15) hx hb hts hin0 tyX1 tyX1_ok nmX1 hown hK hP hD hS 0 rfl rfl 12 (by decide) (tb (.fieldLink RX1 49 "TollSills$Quarter" "in" "[I") (ts_wx_in (q := 1056) (by decide +kernel))) (fun _ h9 => h9) rfl hin rfl (by decide +kernel) rfl rfl (Nat.le_of_ble_eq_true rfl) dX1_init_90 (fun H locs hP hD hS => ?_)
  have hP : va_P D ts_vc [(h0, .inr (0, [(.ref a1), (.int 0), (.int 0), (.int 1), (.int 0), (.ref a2), (.ref a3), (.ref a4), (.ref a5), (.ref a6), (.int 0), (.ref a7), (.ref a8), .null, .null])), (a1, .inl (cA, 6, .inl z0)), (a2, .inl (cA, 8, .inl z0)), (a3, .inl (cA, 8, .inl z0)), (a4, .inl (cA, 8, .inl z0)), (a5, .inl (cA, 8, .inl z0)), (a6, .inl (cA, 40, .inl z0)), (a7, .inl (cA, 6, .inl z0)), (a8, .inl (cA, 6, .inl z0))] H := hP
  have hD : va_D A [(h0, .inr (0, [(.ref a1), (.int 0), (.int 0), (.int 1), (.int 0), (.ref a2), (.ref a3), (.ref a4), (.ref a5), (.ref a6), (.int 0), (.ref a7), (.ref a8), .null, .null])), (a1, .inl (cA, 6, .inl z0)), (a2, .inl (cA, 8, .inl z0)), (a3, .inl (cA, 8, .inl z0)), (a4, .inl (cA, 8, .inl z0)), (a5, .inl (cA, 8, .inl z0)), (a6, .inl (cA, 40, .inl z0)), (a7, .inl (cA, 6, .inl z0)), (a8, .inl (cA, 6, .inl z0))] := hD
  refine lv_aload_n hx hb dX1_init_93 rfl (lv_at hl 0 rfl) ?_
  refine lv_bipush (v := 6) hx hb dX1_init_94 (by decide) ?_
  refine n_newi (N := 6) hx hb (tb (.arrayClass .int) (ts_wx_in (q := 1094) (by decide +kernel))) hK rfl hP hD hS hA (by decide) (by decide) (Nat.le_of_ble_eq_true rfl) (Nat.le_of_ble_eq_true rfl) (Nat.le_of_ble_eq_true rfl) dX1_init_96 (fun a9 H hP hD hS => ?_)
  have hP : va_P D ts_vc [(h0, .inr (0, [(.ref a1), (.int 0), (.int 0), (.int 1), (.int 0), (.ref a2), (.ref a3), (.ref a4), (.ref a5), (.ref a6), (.int 0), (.ref a7), (.ref a8), .null, .null])), (a1, .inl (cA, 6, .inl z0)), (a2, .inl (cA, 8, .inl z0)), (a3, .inl (cA, 8, .inl z0)), (a4, .inl (cA, 8, .inl z0)), (a5, .inl (cA, 8, .inl z0)), (a6, .inl (cA, 40, .inl z0)), (a7, .inl (cA, 6, .inl z0)), (a8, .inl (cA, 6, .inl z0)), (a9, .inl (cA, 6, .inl z0))] H := hP
  have hD : va_D A [(h0, .inr (0, [(.ref a1), (.int 0), (.int 0), (.int 1), (.int 0), (.ref a2), (.ref a3), (.ref a4), (.ref a5), (.ref a6), (.int 0), (.ref a7), (.ref a8), .null, .null])), (a1, .inl (cA, 6, .inl z0)), (a2, .inl (cA, 8, .inl z0)), (a3, .inl (cA, 8, .inl z0)), (a4, .inl (cA, 8, .inl z0)), (a5, .inl (cA, 8, .inl z0)), (a6, .inl (cA, 40, .inl z0)), (a7, .inl (cA, 6, .inl z0)), (a8, .inl (cA, 6, .inl z0)), (a9, .inl (cA, 6, .inl z0))] := hD
  refine va_putF (D := D) (ci := 0) (v := (.ref a9)) (ty := (.array .int)) (C := RX1) (T := TX1) (N := 15) hx hb hts hin0 tyX1 tyX1_ok nmX1 hown hK hP hD hS 0 rfl rfl 13 (by decide) (tb (.fieldLink RX1 52 "TollSills$Quarter" "crossed" "[I") (ts_wx_in (q := 1059) (by decide +kernel))) (fun _ h9 => h9) rfl hin rfl (by decide +kernel) rfl rfl (Nat.le_of_ble_eq_true rfl) dX1_init_98 (fun H locs hP hD hS => ?_)
  have hP : va_P D ts_vc [(h0, .inr (0, [(.ref a1), (.int 0), (.int 0), (.int 1), (.int 0), (.ref a2), (.ref a3), (.ref a4), (.ref a5), (.ref a6), (.int 0), (.ref a7), (.ref a8), (.ref a9), .null])), (a1, .inl (cA, 6, .inl z0)), (a2, .inl (cA, 8, .inl z0)), (a3, .inl (cA, 8, .inl z0)), (a4, .inl (cA, 8, .inl z0)), (a5, .inl (cA, 8, .inl z0)), (a6, .inl (cA, 40, .inl z0)), (a7, .inl (cA, 6, .inl z0)), (a8, .inl (cA, 6, .inl z0)), (a9, .inl (cA, 6, .inl z0))] H := hP
  have hD : va_D A [(h0, .inr (0, [(.ref a1), (.int 0), (.int 0), (.int 1), (.int 0), (.ref a2), (.ref a3), (.ref a4), (.ref a5), (.ref a6), (.int 0), (.ref a7), (.ref a8), (.ref a9), .null])), (a1, .inl (cA, 6, .inl z0)), (a2, .inl (cA, 8, .inl z0)), (a3, .inl (cA, 8, .inl z0)), (a4, .inl (cA, 8, .inl z0)), (a5, .inl (cA, 8, .inl z0)), (a6, .inl (cA, 40, .inl z0)), (a7, .inl (cA, 6, .inl z0)), (a8, .inl (cA, 6, .inl z0)), (a9, .inl (cA, 6, .inl z0))] := hD
  refine lv_aload_n hx hb dX1_init_101 rfl (lv_at hl 0 rfl) ?_
  refine lv_bipush (v := 10) hx hb dX1_init_102 (by decide) ?_
  refine n_newi (N := 10) hx hb (tb (.arrayClass .int) (ts_wx_in (q := 1094) (by decide +kernel))) hK rfl hP hD hS hA (by decide) (by decide) (Nat.le_of_ble_eq_true rfl) (Nat.le_of_ble_eq_true rfl) (Nat.le_of_ble_eq_true rfl) dX1_init_104 (fun a10 H hP hD hS => ?_)
  have hP : va_P D ts_vc [(h0, .inr (0, [(.ref a1), (.int 0), (.int 0), (.int 1), (.int 0), (.ref a2), (.ref a3), (.ref a4), (.ref a5), (.ref a6), (.int 0), (.ref a7), (.ref a8), (.ref a9), .null])), (a1, .inl (cA, 6, .inl z0)), (a2, .inl (cA, 8, .inl z0)), (a3, .inl (cA, 8, .inl z0)), (a4, .inl (cA, 8, .inl z0)), (a5, .inl (cA, 8, .inl z0)), (a6, .inl (cA, 40, .inl z0)), (a7, .inl (cA, 6, .inl z0)), (a8, .inl (cA, 6, .inl z0)), (a9, .inl (cA, 6, .inl z0)), (a10, .inl (cA, 10, .inl z0))] H := hP
  have hD : va_D A [(h0, .inr (0, [(.ref a1), (.int 0), (.int 0), (.int 1), (.int 0), (.ref a2), (.ref a3), (.ref a4), (.ref a5), (.ref a6), (.int 0), (.ref a7), (.ref a8), (.ref a9), .null])), (a1, .inl (cA, 6, .inl z0)), (a2, .inl (cA, 8, .inl z0)), (a3, .inl (cA, 8, .inl z0)), (a4, .inl (cA, 8, .inl z0)), (a5, .inl (cA, 8, .inl z0)), (a6, .inl (cA, 40, .inl z0)), (a7, .inl (cA, 6, .inl z0)), (a8, .inl (cA, 6, .inl z0)), (a9, .inl (cA, 6, .inl z0)), (a10, .inl (cA, 10, .inl z0))] := hD
  refine va_putF (D := D) (ci := 0) (v := (.ref a10)) (ty := (.array .int)) (C := RX1) (T := TX1) (N := 15) hx hb hts hin0 tyX1 tyX1_ok nmX1 hown hK hP hD hS 0 rfl rfl 14 (by decide) (tb (.fieldLink RX1 55 "TollSills$Quarter" "spots" "[I") (ts_wx_in (q := 1061) (by decide +kernel))) (fun _ h9 => h9) rfl hin rfl (by decide +kernel) rfl rfl (Nat.le_of_ble_eq_true rfl) dX1_init_106 (fun H locs hP hD hS => ?_)
  have hP : va_P D ts_vc [(h0, .inr (0, [(.ref a1), (.int 0), (.int 0), (.int 1), (.int 0), (.ref a2), (.ref a3), (.ref a4), (.ref a5), (.ref a6), (.int 0), (.ref a7), (.ref a8), (.ref a9), (.ref a10)])), (a1, .inl (cA, 6, .inl z0)), (a2, .inl (cA, 8, .inl z0)), (a3, .inl (cA, 8, .inl z0)), (a4, .inl (cA, 8, .inl z0)), (a5, .inl (cA, 8, .inl z0)), (a6, .inl (cA, 40, .inl z0)), (a7, .inl (cA, 6, .inl z0)), (a8, .inl (cA, 6, .inl z0)), (a9, .inl (cA, 6, .inl z0)), (a10, .inl (cA, 10, .inl z0))] H := hP
  have hD : va_D A [(h0, .inr (0, [(.ref a1), (.int 0), (.int 0), (.int 1), (.int 0), (.ref a2), (.ref a3), (.ref a4), (.ref a5), (.ref a6), (.int 0), (.ref a7), (.ref a8), (.ref a9), (.ref a10)])), (a1, .inl (cA, 6, .inl z0)), (a2, .inl (cA, 8, .inl z0)), (a3, .inl (cA, 8, .inl z0)), (a4, .inl (cA, 8, .inl z0)), (a5, .inl (cA, 8, .inl z0)), (a6, .inl (cA, 40, .inl z0)), (a7, .inl (cA, 6, .inl z0)), (a8, .inl (cA, 6, .inl z0)), (a9, .inl (cA, 6, .inl z0)), (a10, .inl (cA, 10, .inl z0))] := hD
  have hP : va_P D ts_vc (wwQ cA h0 (fun k => [0, a1, a2, a3, a4, a5, a6, a7, a8, a9, a10].getD k 0) z0) H := hP
  have hD : va_D A (wwQ cA h0 (fun k => [0, a1, a2, a3, a4, a5, a6, a7, a8, a9, a10].getD k 0) z0) := hD
  generalize hu : (fun k => [0, a1, a2, a3, a4, a5, a6, a7, a8, a9, a10].getD k 0) = u at hP hD
  clear hu
  refine W.widen (k := 10) (n := 106) (Nat.le_of_ble_eq_true rfl) (Nat.le_of_ble_eq_true rfl) ?_
  have loop : ∀ (t i : Nat) (f : Nat → Int32) (H : Heap) (locs : List Loc) (ls : Array Slot), i + t = 10 → (∀ j, j < i → f j = -1) → va_P D ts_vc (wwQ cA h0 u f) H → va_D A (wwQ cA h0 u f) → va_S A s.heap H locs → lv_has ls 2 [(0, .ref h0), (1, .int (nI i))] → W p l e (headSpec (ts_wl m_X1) { frames := 1, cells := 10, slots := 106, locals := 39 }).room s m #[Value.ref h0] below meth c H locs 10 106 (MQ below (va_Qv (fun u : (Nat → Nat) × (Nat → Int32) => ∀ j, j < 10 → u.2 j = -1) (fun u t => va_P D ts_vc (wwQ cA h0 u.1 u.2) t.heap ∧ va_K D ts_vc [(cA, .int), (cS, .object "java/lang/String")] t ∧ va_D A (wwQ cA h0 u.1 u.2)) A) #[Value.ref h0] s 10 106 A) (F0 m 111 ls []) := by
    intro t
    induction t with
    | zero =>
      intro i f H locs ls e hf hP hD hS hl
      refine lv_iload_n hx hb dX1_init_111 rfl (lv_at hl 1 rfl) ?_
      refine lv_bipush (v := 10) hx hb dX1_init_112 (by decide) ?_
      refine lv_icmp_ge (tgt := 130) hx hb dX1_init_114 (by decide) (fun _ => ?_) (fun q => absurd (show (10 : Int32) ≤ nI i from nI_le (a := 10) (by omega) (by omega)) q)
      exact W.vret hx hb hr (fun t ht hW => ⟨⟨(u, f), rfl, fun j hj => hf j (by omega), by rw [ht]; exact hP, va_K.moved hW.alike hK, hD⟩, hS.F ht⟩) hS.2.2 dX1_init_130 hlocks
    | succ t ih =>
      intro i f H locs ls e hf hP hD hS hl
      refine lv_iload_n hx hb dX1_init_111 rfl (lv_at hl 1 rfl) ?_
      refine lv_bipush (v := 10) hx hb dX1_init_112 (by decide) ?_
      refine lv_icmp_ge (tgt := 130) hx hb dX1_init_114 (by decide) (fun q => absurd q (show ¬ (10 : Int32) ≤ nI i from nI_ge (b := 10) (by omega) (by omega))) (fun _ => ?_)
      refine lv_aload_n hx hb dX1_init_117 rfl (lv_at hl 0 rfl) ?_
      refine va_get (D := D) (ci := 0) (v := .ref (u 10)) (C := RX1) (T := TX1) (N := 15) hx hb hts hin0 hown hK hP 0 rfl rfl 14 (by decide) (tb (.fieldLink RX1 55 "TollSills$Quarter" "spots" "[I") (ts_wx_in (q := 1061) (by decide +kernel))) (fun _ h9 => h9) rfl dX1_init_118 ?_
      refine lv_iload_n hx hb dX1_init_121 rfl (lv_at hl 1 rfl) ?_
      refine lv_iconst (v := -1) hx hb dX1_init_122 (by decide) ?_
      refine va_iast hx hb hK hP hD hS 10 0 (f := f) rfl rfl (i := nI i) (show vp_in (nI i) 10 from vp_in_nI (by omega) (by omega)) dX1_init_123 (fun H locs hP hD hS => ?_)
      rw [nI_clamp (by omega)] at hP hD
      refine lv_iinc (v := nI (i + 1)) (lv' := [(1, .int (nI (i + 1))), (0, .ref h0)]) hx hb dX1_init_124 hl (k := 1) rfl (by rw [← nI_add]; rfl) (by decide) rfl (fun ls hl => ?_)
      refine lv_goto (tgt := 111) hx hb dX1_init_127 (by decide) ?_
      exact ih (i + 1) (upd f i (-1)) H locs ls (by omega) (fun j hj => by
        by_cases q : j = i
        · subst q; exact upd_at _ _ _
        · rw [upd_ne _ _ q]; exact hf j (by omega)) hP hD hS (lv_sub hl [1, 0] rfl)
  refine lv_iconst (v := 0) hx hb dX1_init_109 (by decide) ?_
  refine lv_istore_n (lv' := [(1, .int 0), (0, .ref h0)]) hx hb dX1_init_110 rfl hl (by decide) rfl (fun ls hl => ?_)
  exact loop 10 0 z0 _ _ ls (by omega) (fun j hj => by omega) hP hD hS (lv_sub hl [1, 0] rfl)
