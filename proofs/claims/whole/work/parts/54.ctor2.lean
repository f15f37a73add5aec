/-! the constructor of TollSills -/
theorem dX4_init_0 : decode cX4_init 0 = .ok (.aload_n 0, 1) := by decide +kernel
theorem dX4_init_1 : decode cX4_init 1 = .ok (.invokespecial 1, 3) := by decide +kernel
theorem dX4_init_4 : decode cX4_init 4 = .ok (.aload_n 0, 1) := by decide +kernel
theorem dX4_init_5 : decode cX4_init 5 = .ok (.new 7, 3) := by decide +kernel
theorem dX4_init_8 : decode cX4_init 8 = .ok (.dup, 1) := by decide +kernel
theorem dX4_init_9 : decode cX4_init 9 = .ok (.invokespecial 9, 3) := by decide +kernel
theorem dX4_init_12 : decode cX4_init 12 = .ok (.putfield 10, 3) := by decide +kernel
theorem dX4_init_15 : decode cX4_init 15 = .ok (.aload_n 0, 1) := by decide +kernel
theorem dX4_init_16 : decode cX4_init 16 = .ok (.new 7, 3) := by decide +kernel
theorem dX4_init_19 : decode cX4_init 19 = .ok (.dup, 1) := by decide +kernel
theorem dX4_init_20 : decode cX4_init 20 = .ok (.invokespecial 9, 3) := by decide +kernel
theorem dX4_init_23 : decode cX4_init 23 = .ok (.putfield 16, 3) := by decide +kernel
theorem dX4_init_26 : decode cX4_init 26 = .ok (.aload_n 0, 1) := by decide +kernel
theorem dX4_init_27 : decode cX4_init 27 = .ok (.new 7, 3) := by decide +kernel
theorem dX4_init_30 : decode cX4_init 30 = .ok (.dup, 1) := by decide +kernel
theorem dX4_init_31 : decode cX4_init 31 = .ok (.invokespecial 9, 3) := by decide +kernel
theorem dX4_init_34 : decode cX4_init 34 = .ok (.putfield 19, 3) := by decide +kernel
theorem dX4_init_37 : decode cX4_init 37 = .ok (.aload_n 0, 1) := by decide +kernel
theorem dX4_init_38 : decode cX4_init 38 = .ok (.iconst 0, 1) := by decide +kernel
theorem dX4_init_39 : decode cX4_init 39 = .ok (.putfield 22, 3) := by decide +kernel
theorem dX4_init_42 : decode cX4_init 42 = .ok (.aload_n 0, 1) := by decide +kernel
theorem dX4_init_43 : decode cX4_init 43 = .ok (.new 26, 3) := by decide +kernel
theorem dX4_init_46 : decode cX4_init 46 = .ok (.dup, 1) := by decide +kernel
theorem dX4_init_47 : decode cX4_init 47 = .ok (.invokespecial 28, 3) := by decide +kernel
theorem dX4_init_50 : decode cX4_init 50 = .ok (.putfield 29, 3) := by decide +kernel
theorem dX4_init_53 : decode cX4_init 53 = .ok (.aload_n 0, 1) := by decide +kernel
theorem dX4_init_54 : decode cX4_init 54 = .ok (.new 33, 3) := by decide +kernel
theorem dX4_init_57 : decode cX4_init 57 = .ok (.dup, 1) := by decide +kernel
theorem dX4_init_58 : decode cX4_init 58 = .ok (.invokespecial 35, 3) := by decide +kernel
theorem dX4_init_61 : decode cX4_init 61 = .ok (.putfield 36, 3) := by decide +kernel
theorem dX4_init_64 : decode cX4_init 64 = .ok (.aload_n 0, 1) := by decide +kernel
theorem dX4_init_65 : decode cX4_init 65 = .ok (.bipush 7, 2) := by decide +kernel
theorem dX4_init_67 : decode cX4_init 67 = .ok (.newarray .int, 2) := by decide +kernel
theorem dX4_init_69 : decode cX4_init 69 = .ok (.putfield 40, 3) := by decide +kernel
theorem dX4_init_72 : decode cX4_init 72 = .ok (.return_, 1) := by decide +kernel
def m_X4 : ts_M := (yX4_init, cX4_init, 1, none, 0, 3)
def ww4 (cA : ClassId) (h0 q1 : Nat) (u1 : Nat → Nat) (f1 : Nat → Int32) (q2 : Nat) (u2 : Nat → Nat) (f2 : Nat → Int32) (q3 : Nat) (u3 : Nat → Nat) (f3 : Nat → Int32) (q4 : Nat) (u4 : Nat → Nat) (q5 : Nat) (u5 : Nat → Nat) (a1 : Nat) : va_W := (h0, .inr (3, [.ref q1, .ref q2, .ref q3, .int 0, .ref q4, .ref q5, .ref a1])) :: (wwQ cA q1 u1 f1 ++ wwQ cA q2 u2 f2 ++ wwQ cA q3 u3 f3 ++ wwT cA q4 u4 ++ wwS cA q5 u5 ++ [(a1, .inl (cA, 7, .inl z0))])
set_option maxHeartbeats 4000000 in
set_option maxRecDepth 100000 in
theorem c_X4_init (l : Launch) (D : va_G) (cA cS : ClassId) (h0 sz : Nat) : Met l yX4_init (ts_wl m_X4) ({ frames := 2, cells := 40, slots := 667, locals := 78 }) (va_Pc [.ref h0] (fun U => U.heap.size = sz ∧ va_P D ts_vc [(h0, .inr (3, [.null, .null, .null, .int 0, .null, .null, .null]))] U.heap ∧ va_K D ts_vc [(cA, .int), (cS, .object "java/lang/String")] U ∧ va_D (fun _ => True) [(h0, .inr (3, [.null, .null, .null, .int 0, .null, .null, .null]))] ∧ va_Nw (.methodLinkNest RX4 28 yX3_init RX4) U ∧ va_Nw (.methodLinkNest RX4 35 yX2_init RX4) U)) (va_Qv (fun _ : Unit => True) (fun _ t => ∃ q1 u1 f1 q2 u2 f2 q3 u3 f3 q4 u4 q5 u5 a1, ((∀ j, j < 10 → f1 j = -1) ∧ (∀ j, j < 10 → f2 j = -1) ∧ (∀ j, j < 10 → f3 j = -1)) ∧ va_P D ts_vc (ww4 cA h0 q1 u1 f1 q2 u2 f2 q3 u3 f3 q4 u4 q5 u5 a1) t.heap ∧ va_K D ts_vc [(cA, .int), (cS, .object "java/lang/String")] t ∧ va_D (va_A [(h0, .inr (3, [.null, .null, .null, .int 0, .null, .null, .null]))] sz) (ww4 cA h0 q1 u1 f1 q2 u2 f2 q3 u3 f3 q4 u4 q5 u5 a1)) (va_A [(h0, .inr (3, [.null, .null, .null, .int 0, .null, .null, .null]))] sz)) 40 667 (va_A [(h0, .inr (3, [.null, .null, .null, .int 0, .null, .null, .null]))] sz) := by
  refine Met.ofW (cc := cX4_init) (maxL := 1) (ret := none) (by decide) rfl ?_
  intro p e s m args below meth c s₁ B hml hv
  obtain ⟨rfl, hsz, hP, hK, hD0, hN1, hN2⟩ := hv
  have hx := B.exec
  have hb := B.bytes
  have hr := B.returns
  have hts := atoms_spec (ws := ts_wl m_X4) B.pre
  have tb : ∀ w ∈ ts_TB, w.before #[Value.ref h0] s = true := fun w h => hts w (List.mem_cons_of_mem _ h)
  have hin0 : ∀ w ∈ u_ws RX4 TX4 7, w ∈ ts_wl m_X4 := fun w h => List.mem_cons_of_mem _ (ts_lw_in (k := 3) (by decide) w h)
  have hown : s.vm.findClass RX4 = some m.cls := findClass_of_methodNamed B.named
  have hlocks := B.notSynchronized
  have hin : meth.name = "<init>" := (name_of_methodNamed B.named B.method).1
  subst hsz
  have hD := hD0.self (sz := s.heap.size)
  generalize hAe : va_A [(h0, .inr (3, [.null, .null, .null, .int 0, .null, .null, .null]))] s.heap.size = A at hD ⊢
  have hA : ∀ q : Nat, s.heap.size ≤ q → A q := fun q h => by rw [← hAe]; exact Or.inr h
  have hS : va_S A s.heap s.heap [] := va_S.rf
  have hP : va_P D ts_vc [(h0, .inr (3, [.null, .null, .null, .int 0, .null, .null, .null]))] s.heap := hP
  have hl := lv_entry ([.ref h0]) (n := 1) (Nat.le_of_ble_eq_true rfl)
  rw [lg_entry_eq]
  generalize (lg_sl ([.ref h0]) ++ List.replicate (1 - (lg_sl ([.ref h0])).length) Slot.unset).toArray = ls at hl ⊢
  have hl : lv_has ls 1 [(0, .ref h0)] := hl
  refine lv_aload_n hx hb dX4_init_0 rfl (lv_at hl 0 rfl) ?_
  refine W.objInit hx hb hown (tb (.methodLink RX4 1 objectInit) (ts_wx_in (q := 1019) (by decide +kernel))) (tb (.instanceMethod objectInit) (ts_wx_in (q := 1020) (by decide +kernel))) (tb (.code objectInit ⟨#[0xb1]⟩ 1 none) (ts_wx_in (q := 1021) (by decide +kernel))) rfl (by rw [hml]; exact hl.1) rfl dX4_init_1 (Nat.le_of_ble_eq_true rfl) (Nat.le_of_ble_eq_true rfl) ?_
  refine W.eq (g2 := F0 m 4 ls []) rfl ?_
  refine lv_aload_n hx hb dX4_init_4 rfl (lv_at hl 0 rfl) ?_
  refine va_new (ci := 0) (fs := [.null, .int 0, .int 0, .int 0, .int 0, .null, .null, .null, .null, .null, .int 0, .null, .null, .null, .null]) (C := RX1) (T := TX1) (N := 15) hx hb hts (fun w h => List.mem_cons_of_mem _ (ts_lw_in (k := 0) (by decide) w h)) tyX1 tyX1_ok hown (tb (.classLink RX4 7 RX1) (ts_wx_in (q := 1022) (by decide +kernel))) (tb (.instantiable RX1 15) (ts_wx_in (q := 1023) (by decide +kernel))) (tb (.initialized RX1) (ts_wx_in (q := 1002) (by decide +kernel))) hK hP hD hS hA rfl (fun j hj => by rcases (show j = 0 ∨ j = 1 ∨ j = 2 ∨ j = 3 ∨ j = 4 ∨ j = 5 ∨ j = 6 ∨ j = 7 ∨ j = 8 ∨ j = 9 ∨ j = 10 ∨ j = 11 ∨ j = 12 ∨ j = 13 ∨ j = 14 by omega) with rfl | rfl | rfl | rfl | rfl | rfl | rfl | rfl | rfl | rfl | rfl | rfl | rfl | rfl | rfl <;> rfl) (Nat.le_of_ble_eq_true rfl) (Nat.le_of_ble_eq_true rfl) dX4_init_5 (fun q1 H hP hD hS => ?_)
  have hP : va_P D ts_vc ((h0, .inr (3, [.null, .null, .null, .int 0, .null, .null, .null])) :: ([(q1, .inr (0, [.null, .int 0, .int 0, .int 0, .int 0, .null, .null, .null, .null, .null, .int 0, .null, .null, .null, .null]))])) H := hP
  have hD : va_D A ((h0, .inr (3, [.null, .null, .null, .int 0, .null, .null, .null])) :: ([(q1, .inr (0, [.null, .int 0, .int 0, .int 0, .int 0, .null, .null, .null, .null, .null, .int 0, .null, .null, .null, .null]))])) := hD
  refine lv_dup hx hb dX4_init_8 rfl ?_
  have hPc := hP.sub (ws' := [(q1, .inr (0, [.null, .int 0, .int 0, .int 0, .int 0, .null, .null, .null, .null, .null, .int 0, .null, .null, .null, .null]))]) [1] rfl
  have hDc := hD.sub (ws' := [(q1, .inr (0, [.null, .int 0, .int 0, .int 0, .int 0, .null, .null, .null, .null, .null, .int 0, .null, .null, .null, .null]))]) [1] (by decide) rfl
  have hFc := va_free (wc := [(q1, .inr (0, [.null, .int 0, .int 0, .int 0, .int 0, .null, .null, .null, .null, .null, .int 0, .null, .null, .null, .null]))]) hD hS hA [1] rfl
  refine va_callv (va_runI (As := []) (rest := [.ref q1, .ref h0]) ⟨hx, hb, hml, hown, hts⟩ (c_X1_init l D cA cS q1 H.size) ⟨callB_of 0 hts (ts_good (mi := m_X1) (fun w h => List.mem_cons_of_mem _ h) (ts_wx_in (q := 1026) (by decide +kernel))) rfl rfl rfl (tb (.initialized RX1) (ts_wx_in (q := 1002) (by decide +kernel))) (tb (.methodLink RX4 9 yX1_init) (ts_wx_in (q := 1024) (by decide +kernel))) ⟨by decide, by decide, by decide +kernel⟩ ⟨Nat.le_of_ble_eq_true rfl, Nat.le_of_ble_eq_true rfl⟩, rfl, (tb (.instanceMethod yX1_init) (ts_wx_in (q := 1025) (by decide +kernel)))⟩ ⟨fun a U g mk q => by obtain ⟨q0, q1, qP, qK, qD⟩ := q; exact ⟨q0, q1, qP, va_K.moved (u := U) (U := U.calling g mk a) (Vm.Alike.refl U.vm) qK, qD⟩, fun U hU hW => ⟨rfl, by rw [hU], by rw [hU]; exact hPc, va_K.moved hW.alike hK, hDc.weaken (fun _ _ _ _ => trivial)⟩⟩ rfl rfl hl.1 rfl (lv_room (Nat.le_of_ble_eq_true rfl)) dX4_init_9 ⟨Nat.le_of_ble_eq_true rfl, Nat.le_of_ble_eq_true rfl⟩) hS (fun q _ h => hFc q h) hFc (fun u1 t H1 locs ht hvm hw1 hB hz1 hk1 hS => ?_)
  obtain ⟨u1, f1⟩ := u1
  obtain ⟨hP1, hK1, hD1⟩ := hB
  rw [ht] at hP1
  obtain ⟨hP, hD⟩ := va_join (wr := [(h0, .inr (3, [.null, .null, .null, .int 0, .null, .null, .null]))]) (w1 := wwQ cA q1 u1 f1) hP hD [1] [0] rfl rfl (by decide) (by decide) hk1 hFc hP1 hD1
  generalize H1 = H at hP hS ⊢
  have hP : va_P D ts_vc ((h0, .inr (3, [.null, .null, .null, .int 0, .null, .null, .null])) :: (wwQ cA q1 u1 f1)) H := hP
  have hD : va_D A ((h0, .inr (3, [.null, .null, .null, .int 0, .null, .null, .null])) :: (wwQ cA q1 u1 f1)) := hD
  refine va_putF (D := D) (ci := 3) (v := (.ref q1)) (ty := (.object "TollSills$Quarter")) (C := RX4) (T := TX4) (N := 7) hx hb hts hin0 tyX4 tyX4_ok nmX4 hown hK hP hD hS 0 rfl rfl 0 (by decide) (tb (.fieldLink RX4 10 "TollSills" "quarter" "LTollSills$Quarter;") (ts_wx_in (q := 1139) (by decide +kernel))) (fun _ h9 => h9) rfl hin rfl (by decide +kernel) rfl rfl (Nat.le_of_ble_eq_true rfl) dX4_init_12 (fun H locs hP hD hS => ?_)
  have hP : va_P D ts_vc ((h0, .inr (3, [(.ref q1), .null, .null, .int 0, .null, .null, .null])) :: (wwQ cA q1 u1 f1)) H := hP
  have hD : va_D A ((h0, .inr (3, [(.ref q1), .null, .null, .int 0, .null, .null, .null])) :: (wwQ cA q1 u1 f1)) := hD
  refine lv_aload_n hx hb dX4_init_15 rfl (lv_at hl 0 rfl) ?_
  refine va_new (ci := 0) (fs := [.null, .int 0, .int 0, .int 0, .int 0, .null, .null, .null, .null, .null, .int 0, .null, .null, .null, .null]) (C := RX1) (T := TX1) (N := 15) hx hb hts (fun w h => List.mem_cons_of_mem _ (ts_lw_in (k := 0) (by decide) w h)) tyX1 tyX1_ok hown (tb (.classLink RX4 7 RX1) (ts_wx_in (q := 1022) (by decide +kernel))) (tb (.instantiable RX1 15) (ts_wx_in (q := 1023) (by decide +kernel))) (tb (.initialized RX1) (ts_wx_in (q := 1002) (by decide +kernel))) hK hP hD hS hA rfl (fun j hj => by rcases (show j = 0 ∨ j = 1 ∨ j = 2 ∨ j = 3 ∨ j = 4 ∨ j = 5 ∨ j = 6 ∨ j = 7 ∨ j = 8 ∨ j = 9 ∨ j = 10 ∨ j = 11 ∨ j = 12 ∨ j = 13 ∨ j = 14 by omega) with rfl | rfl | rfl | rfl | rfl | rfl | rfl | rfl | rfl | rfl | rfl | rfl | rfl | rfl | rfl <;> rfl) (Nat.le_of_ble_eq_true rfl) (Nat.le_of_ble_eq_true rfl) dX4_init_16 (fun q2 H hP hD hS => ?_)
  have hP : va_P D ts_vc ((h0, .inr (3, [(.ref q1), .null, .null, .int 0, .null, .null, .null])) :: (wwQ cA q1 u1 f1 ++ [(q2, .inr (0, [.null, .int 0, .int 0, .int 0, .int 0, .null, .null, .null, .null, .null, .int 0, .null, .null, .null, .null]))])) H := hP
  have hD : va_D A ((h0, .inr (3, [(.ref q1), .null, .null, .int 0, .null, .null, .null])) :: (wwQ cA q1 u1 f1 ++ [(q2, .inr (0, [.null, .int 0, .int 0, .int 0, .int 0, .null, .null, .null, .null, .null, .int 0, .null, .null, .null, .null]))])) := hD
  refine lv_dup hx hb dX4_init_19 rfl ?_
  have hPc := hP.sub (ws' := [(q2, .inr (0, [.null, .int 0, .int 0, .int 0, .int 0, .null, .null, .null, .null, .null, .int 0, .null, .null, .null, .null]))]) [12] rfl
  have hDc := hD.sub (ws' := [(q2, .inr (0, [.null, .int 0, .int 0, .int 0, .int 0, .null, .null, .null, .null, .null, .int 0, .null, .null, .null, .null]))]) [12] (by decide) rfl
  have hFc := va_free (wc := [(q2, .inr (0, [.null, .int 0, .int 0, .int 0, .int 0, .null, .null, .null, .null, .null, .int 0, .null, .null, .null, .null]))]) hD hS hA [12] rfl
  refine va_callv (va_runI (As := []) (rest := [.ref q2, .ref h0]) ⟨hx, hb, hml, hown, hts⟩ (c_X1_init l D cA cS q2 H.size) ⟨callB_of 0 hts (ts_good (mi := m_X1) (fun w h => List.mem_cons_of_mem _ h) (ts_wx_in (q := 1026) (by decide +kernel))) rfl rfl rfl (tb (.initialized RX1) (ts_wx_in (q := 1002) (by decide +kernel))) (tb (.methodLink RX4 9 yX1_init) (ts_wx_in (q := 1024) (by decide +kernel))) ⟨by decide, by decide, by decide +kernel⟩ ⟨Nat.le_of_ble_eq_true rfl, Nat.le_of_ble_eq_true rfl⟩, rfl, (tb (.instanceMethod yX1_init) (ts_wx_in (q := 1025) (by decide +kernel)))⟩ ⟨fun a U g mk q => by obtain ⟨q0, q1, qP, qK, qD⟩ := q; exact ⟨q0, q1, qP, va_K.moved (u := U) (U := U.calling g mk a) (Vm.Alike.refl U.vm) qK, qD⟩, fun U hU hW => ⟨rfl, by rw [hU], by rw [hU]; exact hPc, va_K.moved hW.alike hK, hDc.weaken (fun _ _ _ _ => trivial)⟩⟩ rfl rfl hl.1 rfl (lv_room (Nat.le_of_ble_eq_true rfl)) dX4_init_20 ⟨Nat.le_of_ble_eq_true rfl, Nat.le_of_ble_eq_true rfl⟩) hS (fun q _ h => hFc q h) hFc (fun u2 t H1 locs ht hvm hw2 hB hz1 hk1 hS => ?_)
  obtain ⟨u2, f2⟩ := u2
  obtain ⟨hP1, hK1, hD1⟩ := hB
  rw [ht] at hP1
  obtain ⟨hP, hD⟩ := va_join (wr := ((h0, .inr (3, [(.ref q1), .null, .null, .int 0, .null, .null, .null])) :: (wwQ cA q1 u1 f1))) (w1 := wwQ cA q2 u2 f2) hP hD [12] [0, 1, 2, 3, 4, 5, 6, 7, 8, 9, 10, 11] rfl rfl (by decide) (by decide) hk1 hFc hP1 hD1
  generalize H1 = H at hP hS ⊢
  have hP : va_P D ts_vc ((h0, .inr (3, [(.ref q1), .null, .null, .int 0, .null, .null, .null])) :: (wwQ cA q1 u1 f1 ++ wwQ cA q2 u2 f2)) H := hP
  have hD : va_D A ((h0, .inr (3, [(.ref q1), .null, .null, .int 0, .null, .null, .null])) :: (wwQ cA q1 u1 f1 ++ wwQ cA q2 u2 f2)) := hD
  refine va_putF (D := D) (ci := 3) (v := (.ref q2)) (ty := (.object "TollSills$Quarter")) (C := RX4) (T := TX4) (N := 7) hx hb hts hin0 tyX4 tyX4_ok nmX4 hown hK hP hD hS 0 rfl rfl 1 (by decide) (tb (.fieldLink RX4 16 "TollSills" "trial" "LTollSills$Quarter;") (ts_wx_in (q := 1140) (by decide +kernel))) (fun _ h9 => h9) rfl hin rfl (by decide +kernel) rfl rfl (Nat.le_of_ble_eq_true rfl) dX4_init_23 (fun H locs hP hD hS => ?_)
  have hP : va_P D ts_vc ((h0, .inr (3, [(.ref q1), (.ref q2), .null, .int 0, .null, .null, .null])) :: (wwQ cA q1 u1 f1 ++ wwQ cA q2 u2 f2)) H := hP
  have hD : va_D A ((h0, .inr (3, [(.ref q1), (.ref q2), .null, .int 0, .null, .null, .null])) :: (wwQ cA q1 u1 f1 ++ wwQ cA q2 u2 f2)) := hD
  refine lv_aload_n hx hb dX4_init_26 rfl (lv_at hl 0 rfl) ?_
  refine va_new (ci := 0) (fs := [.null, .int 0, .int 0, .int 0, .int 0, .null, .null, .null, .null, .null, .int 0, .null, .null, .null, .null]) (C := RX1) (T := TX1) (N := 15) hx hb hts (fun w h => List.mem_cons_of_mem _ (ts_lw_in (k := 0) (by decide) w h)) tyX1 tyX1_ok hown (tb (.classLink RX4 7 RX1) (ts_wx_in (q := 1022) (by decide +kernel))) (tb (.instantiable RX1 15) (ts_wx_in (q := 1023) (by decide +kernel))) (tb (.initialized RX1) (ts_wx_in (q := 1002) (by decide +kernel))) hK hP hD hS hA rfl (fun j hj => by rcases (show j = 0 ∨ j = 1 ∨ j = 2 ∨ j = 3 ∨ j = 4 ∨ j = 5 ∨ j = 6 ∨ j = 7 ∨ j = 8 ∨ j = 9 ∨ j = 10 ∨ j = 11 ∨ j = 12 ∨ j = 13 ∨ j = 14 by omega) with rfl | rfl | rfl | rfl | rfl | rfl | rfl | rfl | rfl | rfl | rfl | rfl | rfl | rfl | rfl <;> rfl) (Nat.le_of_ble_eq_true rfl) (Nat.le_of_ble_eq_true rfl) dX4_init_27 (fun q3 H hP hD hS => ?_)
  have hP : va_P D ts_vc ((h0, .inr (3, [(.ref q1), (.ref q2), .null, .int 0, .null, .null, .null])) :: (wwQ cA q1 u1 f1 ++ wwQ cA q2 u2 f2 ++ [(q3, .inr (0, [.null, .int 0, .int 0, .int 0, .int 0, .null, .null, .null, .null, .null, .int 0, .null, .null, .null, .null]))])) H := hP
  have hD : va_D A ((h0, .inr (3, [(.ref q1), (.ref q2), .null, .int 0, .null, .null, .null])) :: (wwQ cA q1 u1 f1 ++ wwQ cA q2 u2 f2 ++ [(q3, .inr (0, [.null, .int 0, .int 0, .int 0, .int 0, .null, .null, .null, .null, .null, .int 0, .null, .null, .null, .null]))])) := hD
  refine lv_dup hx hb dX4_init_30 rfl ?_
  have hPc := hP.sub (ws' := [(q3, .inr (0, [.null, .int 0, .int 0, .int 0, .int 0, .null, .null, .null, .null, .null, .int 0, .null, .null, .null, .null]))]) [23] rfl
  have hDc := hD.sub (ws' := [(q3, .inr (0, [.null, .int 0, .int 0, .int 0, .int 0, .null, .null, .null, .null, .null, .int 0, .null, .null, .null, .null]))]) [23] (by decide) rfl
  have hFc := va_free (wc := [(q3, .inr (0, [.null, .int 0, .int 0, .int 0, .int 0, .null, .null, .null, .null, .null, .int 0, .null, .null, .null, .null]))]) hD hS hA [23] rfl
  refine va_callv (va_runI (As := []) (rest := [.ref q3, .ref h0]) ⟨hx, hb, hml, hown, hts⟩ (c_X1_init l D cA cS q3 H.size) ⟨callB_of 0 hts (ts_good (mi := m_X1) (fun w h => List.mem_cons_of_mem _ h) (ts_wx_in (q := 1026) (by decide +kernel))) rfl rfl rfl (tb (.initialized RX1) (ts_wx_in (q := 1002) (by decide +kernel))) (tb (.methodLink RX4 9 yX1_init) (ts_wx_in (q := 1024) (by decide +kernel))) ⟨by decide, by decide, by decide +kernel⟩ ⟨Nat.le_of_ble_eq_true rfl, Nat.le_of_ble_eq_true rfl⟩, rfl, (tb (.instanceMethod yX1_init) (ts_wx_in (q := 1025) (by decide +kernel)))⟩ ⟨fun a U g mk q => by obtain ⟨q0, q1, qP, qK, qD⟩ := q; exact ⟨q0, q1, qP, va_K.moved (u := U) (U := U.calling g mk a) (Vm.Alike.refl U.vm) qK, qD⟩, fun U hU hW => ⟨rfl, by rw [hU], by rw [hU]; exact hPc, va_K.moved hW.alike hK, hDc.weaken (fun _ _ _ _ => trivial)⟩⟩ rfl rfl hl.1 rfl (lv_room (Nat.le_of_ble_eq_true rfl)) dX4_init_31 ⟨Nat.le_of_ble_eq_true rfl, Nat.le_of_ble_eq_true rfl⟩) hS (fun q _ h => hFc q h) hFc (fun u3 t H1 locs ht hvm hw3 hB hz1 hk1 hS => ?_)
  obtain ⟨u3, f3⟩ := u3
  obtain ⟨hP1, hK1, hD1⟩ := hB
  rw [ht] at hP1
  obtain ⟨hP, hD⟩ := va_join (wr := ((h0, .inr (3, [(.ref q1), (.ref q2), .null, .int 0, .null, .null, .null])) :: (wwQ cA q1 u1 f1 ++ wwQ cA q2 u2 f2))) (w1 := wwQ cA q3 u3 f3) hP hD [23] [0, 1, 2, 3, 4, 5, 6, 7, 8, 9, 10, 11, 12, 13, 14, 15, 16, 17, 18, 19, 20, 21, 22] rfl rfl (by decide) (by decide) hk1 hFc hP1 hD1
  generalize H1 = H at hP hS ⊢
  have hP : va_P D ts_vc ((h0, .inr (3, [(.ref q1), (.ref q2), .null, .int 0, .null, .null, .null])) :: (wwQ cA q1 u1 f1 ++ wwQ cA q2 u2 f2 ++ wwQ cA q3 u3 f3)) H := hP
  have hD : va_D A ((h0, .inr (3, [(.ref q1), (.ref q2), .null, .int 0, .null, .null, .null])) :: (wwQ cA q1 u1 f1 ++ wwQ cA q2 u2 f2 ++ wwQ cA q3 u3 f3)) := hD
  refine va_putF (D := D) (ci := 3) (v := (.ref q3)) (ty := (.object "TollSills$Quarter")) (C := RX4) (T := TX4) (N := 7) hx hb hts hin0 tyX4 tyX4_ok nmX4 hown hK hP hD hS 0 rfl rfl 2 (by decide) (tb (.fieldLink RX4 19 "TollSills" "keptImage" "LTollSills$Quarter;") (ts_wx_in (q := 1141) (by decide +kernel))) (fun _ h9 => h9) rfl hin rfl (by decide +kernel) rfl rfl (Nat.le_of_ble_eq_true rfl) dX4_init_34 (fun H locs hP hD hS => ?_)
  have hP : va_P D ts_vc ((h0, .inr (3, [(.ref q1), (.ref q2), (.ref q3), .int 0, .null, .null, .null])) :: (wwQ cA q1 u1 f1 ++ wwQ cA q2 u2 f2 ++ wwQ cA q3 u3 f3)) H := hP
  have hD : va_D A ((h0, .inr (3, [(.ref q1), (.ref q2), (.ref q3), .int 0, .null, .null, .null])) :: (wwQ cA q1 u1 f1 ++ wwQ cA q2 u2 f2 ++ wwQ cA q3 u3 f3)) := hD
  refine lv_aload_n hx hb dX4_init_37 rfl (lv_at hl 0 rfl) ?_
  refine lv_iconst (v := 0) hx hb dX4_init_38 (by decide) ?_
  refine va_put (D := D) (ci := 3) (v := (.int 0)) (ty := .boolean) (C := RX4) (T := TX4) (N := 7) hx hb hts hin0 tyX4 tyX4_ok nmX4 hown hK hP hD hS 0 rfl rfl 3 (by decide) (tb (.fieldLink RX4 22 "TollSills" "imageIsKept" "Z") (ts_wx_in (q := 1142) (by decide +kernel))) (fun _ h9 => h9) rfl (by decide +kernel) rfl rfl (Nat.le_of_ble_eq_true rfl) dX4_init_39 (fun H locs hP hD hS => ?_)
  have hP : va_P D ts_vc ((h0, .inr (3, [(.ref q1), (.ref q2), (.ref q3), (.int 0), .null, .null, .null])) :: (wwQ cA q1 u1 f1 ++ wwQ cA q2 u2 f2 ++ wwQ cA q3 u3 f3)) H := hP
  have hD : va_D A ((h0, .inr (3, [(.ref q1), (.ref q2), (.ref q3), (.int 0), .null, .null, .null])) :: (wwQ cA q1 u1 f1 ++ wwQ cA q2 u2 f2 ++ wwQ cA q3 u3 f3)) := hD
  refine lv_aload_n hx hb dX4_init_42 rfl (lv_at hl 0 rfl) ?_
  refine va_new (ci := 2) (fs := [.null, .int 0, .int 0, .int 0, .int 0, .int 0]) (C := RX3) (T := TX3) (N := 6) hx hb hts (fun w h => List.mem_cons_of_mem _ (ts_lw_in (k := 2) (by decide) w h)) tyX3 tyX3_ok hown (tb (.classLink RX4 26 RX3) (ts_wx_in (q := 1095) (by decide +kernel))) (tb (.instantiable RX3 6) (ts_wx_in (q := 1096) (by decide +kernel))) (tb (.initialized RX3) (ts_wx_in (q := 1003) (by decide +kernel))) hK hP hD hS hA rfl (fun j hj => by rcases (show j = 0 ∨ j = 1 ∨ j = 2 ∨ j = 3 ∨ j = 4 ∨ j = 5 by omega) with rfl | rfl | rfl | rfl | rfl | rfl <;> rfl) (Nat.le_of_ble_eq_true rfl) (Nat.le_of_ble_eq_true rfl) dX4_init_43 (fun q4 H hP hD hS => ?_)
  have hP : va_P D ts_vc ((h0, .inr (3, [(.ref q1), (.ref q2), (.ref q3), (.int 0), .null, .null, .null])) :: (wwQ cA q1 u1 f1 ++ wwQ cA q2 u2 f2 ++ wwQ cA q3 u3 f3 ++ [(q4, .inr (2, [.null, .int 0, .int 0, .int 0, .int 0, .int 0]))])) H := hP
  have hD : va_D A ((h0, .inr (3, [(.ref q1), (.ref q2), (.ref q3), (.int 0), .null, .null, .null])) :: (wwQ cA q1 u1 f1 ++ wwQ cA q2 u2 f2 ++ wwQ cA q3 u3 f3 ++ [(q4, .inr (2, [.null, .int 0, .int 0, .int 0, .int 0, .int 0]))])) := hD
  refine lv_dup hx hb dX4_init_46 rfl ?_
  have hPc := hP.sub (ws' := [(q4, .inr (2, [.null, .int 0, .int 0, .int 0, .int 0, .int 0]))]) [34] rfl
  have hDc := hD.sub (ws' := [(q4, .inr (2, [.null, .int 0, .int 0, .int 0, .int 0, .int 0]))]) [34] (by decide) rfl
  have hFc := va_free (wc := [(q4, .inr (2, [.null, .int 0, .int 0, .int 0, .int 0, .int 0]))]) hD hS hA [34] rfl
  refine va_callv (va_runIN (host := RX4) (As := []) (rest := [.ref q4, .ref h0]) ⟨hx, hb, hml, hown, hts⟩ (c_X3_init l D cA cS q4 H.size) ⟨va_cnB 0 hts (ts_good (mi := m_X3) (fun w h => List.mem_cons_of_mem _ h) (ts_wx_in (q := 1099) (by decide +kernel))) rfl rfl rfl hN1 (tb (.initialized RX3) (ts_wx_in (q := 1003) (by decide +kernel))) ⟨by decide, by decide, by decide +kernel⟩ ⟨Nat.le_of_ble_eq_true rfl, Nat.le_of_ble_eq_true rfl⟩, rfl, (tb (.instanceMethod yX3_init) (ts_wx_in (q := 1098) (by decide +kernel)))⟩ ⟨fun a U g mk q => by obtain ⟨q0, q1, qP, qK, qD⟩ := q; exact ⟨q0, q1, qP, va_K.moved (u := U) (U := U.calling g mk a) (Vm.Alike.refl U.vm) qK, qD⟩, fun U hU hW => ⟨rfl, by rw [hU], by rw [hU]; exact hPc, va_K.moved hW.alike hK, hDc.weaken (fun _ _ _ _ => trivial)⟩⟩ rfl rfl hl.1 rfl (lv_room (Nat.le_of_ble_eq_true rfl)) dX4_init_47 ⟨Nat.le_of_ble_eq_true rfl, Nat.le_of_ble_eq_true rfl⟩) hS (fun q _ h => hFc q h) hFc (fun u4 t H1 locs ht hvm hw4 hB hz1 hk1 hS => ?_)
  obtain ⟨hP1, hK1, hD1⟩ := hB
  rw [ht] at hP1
  obtain ⟨hP, hD⟩ := va_join (wr := ((h0, .inr (3, [(.ref q1), (.ref q2), (.ref q3), (.int 0), .null, .null, .null])) :: (wwQ cA q1 u1 f1 ++ wwQ cA q2 u2 f2 ++ wwQ cA q3 u3 f3))) (w1 := wwT cA q4 u4) hP hD [34] [0, 1, 2, 3, 4, 5, 6, 7, 8, 9, 10, 11, 12, 13, 14, 15, 16, 17, 18, 19, 20, 21, 22, 23, 24, 25, 26, 27, 28, 29, 30, 31, 32, 33] rfl rfl (by decide) (by decide) hk1 hFc hP1 hD1
  generalize H1 = H at hP hS ⊢
  have hP : va_P D ts_vc ((h0, .inr (3, [(.ref q1), (.ref q2), (.ref q3), (.int 0), .null, .null, .null])) :: (wwQ cA q1 u1 f1 ++ wwQ cA q2 u2 f2 ++ wwQ cA q3 u3 f3 ++ wwT cA q4 u4)) H := hP
  have hD : va_D A ((h0, .inr (3, [(.ref q1), (.ref q2), (.ref q3), (.int 0), .null, .null, .null])) :: (wwQ cA q1 u1 f1 ++ wwQ cA q2 u2 f2 ++ wwQ cA q3 u3 f3 ++ wwT cA q4 u4)) := hD
  refine va_putF (D := D) (ci := 3) (v := (.ref q4)) (ty := (.object "TollSills$Tape")) (C := RX4) (T := TX4) (N := 7) hx hb hts hin0 tyX4 tyX4_ok nmX4 hown hK hP hD hS 0 rfl rfl 4 (by decide) (tb (.fieldLink RX4 29 "TollSills" "tape" "LTollSills$Tape;") (ts_wx_in (q := 1143) (by decide +kernel))) (fun _ h9 => h9) rfl hin rfl (by decide +kernel) rfl rfl (Nat.le_of_ble_eq_true rfl) dX4_init_50 (fun H locs hP hD hS => ?_)
  have hP : va_P D ts_vc ((h0, .inr (3, [(.ref q1), (.ref q2), (.ref q3), (.int 0), (.ref q4), .null, .null])) :: (wwQ cA q1 u1 f1 ++ wwQ cA q2 u2 f2 ++ wwQ cA q3 u3 f3 ++ wwT cA q4 u4)) H := hP
  have hD : va_D A ((h0, .inr (3, [(.ref q1), (.ref q2), (.ref q3), (.int 0), (.ref q4), .null, .null])) :: (wwQ cA q1 u1 f1 ++ wwQ cA q2 u2 f2 ++ wwQ cA q3 u3 f3 ++ wwT cA q4 u4)) := hD
  refine lv_aload_n hx hb dX4_init_53 rfl (lv_at hl 0 rfl) ?_
  refine va_new (ci := 1) (fs := [.null, .null, .null]) (C := RX2) (T := TX2) (N := 3) hx hb hts (fun w h => List.mem_cons_of_mem _ (ts_lw_in (k := 1) (by decide) w h)) tyX2 tyX2_ok hown (tb (.classLink RX4 33 RX2) (ts_wx_in (q := 1121) (by decide +kernel))) (tb (.instantiable RX2 3) (ts_wx_in (q := 1122) (by decide +kernel))) (tb (.initialized RX2) (ts_wx_in (q := 1004) (by decide +kernel))) hK hP hD hS hA rfl (fun j hj => by rcases (show j = 0 ∨ j = 1 ∨ j = 2 by omega) with rfl | rfl | rfl <;> rfl) (Nat.le_of_ble_eq_true rfl) (Nat.le_of_ble_eq_true rfl) dX4_init_54 (fun q5 H hP hD hS => ?_)
  have hP : va_P D ts_vc ((h0, .inr (3, [(.ref q1), (.ref q2), (.ref q3), (.int 0), (.ref q4), .null, .null])) :: (wwQ cA q1 u1 f1 ++ wwQ cA q2 u2 f2 ++ wwQ cA q3 u3 f3 ++ wwT cA q4 u4 ++ [(q5, .inr (1, [.null, .null, .null]))])) H := hP
  have hD : va_D A ((h0, .inr (3, [(.ref q1), (.ref q2), (.ref q3), (.int 0), (.ref q4), .null, .null])) :: (wwQ cA q1 u1 f1 ++ wwQ cA q2 u2 f2 ++ wwQ cA q3 u3 f3 ++ wwT cA q4 u4 ++ [(q5, .inr (1, [.null, .null, .null]))])) := hD
  refine lv_dup hx hb dX4_init_57 rfl ?_
  have hPc := hP.sub (ws' := [(q5, .inr (1, [.null, .null, .null]))]) [36] rfl
  have hDc := hD.sub (ws' := [(q5, .inr (1, [.null, .null, .null]))]) [36] (by decide) rfl
  have hFc := va_free (wc := [(q5, .inr (1, [.null, .null, .null]))]) hD hS hA [36] rfl
  refine va_callv (va_runIN (host := RX4) (As := []) (rest := [.ref q5, .ref h0]) ⟨hx, hb, hml, hown, hts⟩ (c_X2_init l D cA cS q5 H.size) ⟨va_cnB 0 hts (ts_good (mi := m_X2) (fun w h => List.mem_cons_of_mem _ h) (ts_wx_in (q := 1125) (by decide +kernel))) rfl rfl rfl hN2 (tb (.initialized RX2) (ts_wx_in (q := 1004) (by decide +kernel))) ⟨by decide, by decide, by decide +kernel⟩ ⟨Nat.le_of_ble_eq_true rfl, Nat.le_of_ble_eq_true rfl⟩, rfl, (tb (.instanceMethod yX2_init) (ts_wx_in (q := 1124) (by decide +kernel)))⟩ ⟨fun a U g mk q => by obtain ⟨q0, q1, qP, qK, qD⟩ := q; exact ⟨q0, q1, qP, va_K.moved (u := U) (U := U.calling g mk a) (Vm.Alike.refl U.vm) qK, qD⟩, fun U hU hW => ⟨rfl, by rw [hU], by rw [hU]; exact hPc, va_K.moved hW.alike hK, hDc.weaken (fun _ _ _ _ => trivial)⟩⟩ rfl rfl hl.1 rfl (lv_room (Nat.le_of_ble_eq_true rfl)) dX4_init_58 ⟨Nat.le_of_ble_eq_true rfl, Nat.le_of_ble_eq_true rfl⟩) hS (fun q _ h => hFc q h) hFc (fun u5 t H1 locs ht hvm hw5 hB hz1 hk1 hS => ?_)
  obtain ⟨hP1, hK1, hD1⟩ := hB
  rw [ht] at hP1
  obtain ⟨hP, hD⟩ := va_join (wr := ((h0, .inr (3, [(.ref q1), (.ref q2), (.ref q3), (.int 0), (.ref q4), .null, .null])) :: (wwQ cA q1 u1 f1 ++ wwQ cA q2 u2 f2 ++ wwQ cA q3 u3 f3 ++ wwT cA q4 u4))) (w1 := wwS cA q5 u5) hP hD [36] [0, 1, 2, 3, 4, 5, 6, 7, 8, 9, 10, 11, 12, 13, 14, 15, 16, 17, 18, 19, 20, 21, 22, 23, 24, 25, 26, 27, 28, 29, 30, 31, 32, 33, 34, 35] rfl rfl (by decide) (by decide) hk1 hFc hP1 hD1
  generalize H1 = H at hP hS ⊢
  have hP : va_P D ts_vc ((h0, .inr (3, [(.ref q1), (.ref q2), (.ref q3), (.int 0), (.ref q4), .null, .null])) :: (wwQ cA q1 u1 f1 ++ wwQ cA q2 u2 f2 ++ wwQ cA q3 u3 f3 ++ wwT cA q4 u4 ++ wwS cA q5 u5)) H := hP
  have hD : va_D A ((h0, .inr (3, [(.ref q1), (.ref q2), (.ref q3), (.int 0), (.ref q4), .null, .null])) :: (wwQ cA q1 u1 f1 ++ wwQ cA q2 u2 f2 ++ wwQ cA q3 u3 f3 ++ wwT cA q4 u4 ++ wwS cA q5 u5)) := hD
  refine va_putF (D := D) (ci := 3) (v := (.ref q5)) (ty := (.object "TollSills$Sheets")) (C := RX4) (T := TX4) (N := 7) hx hb hts hin0 tyX4 tyX4_ok nmX4 hown hK hP hD hS 0 rfl rfl 5 (by decide) (tb (.fieldLink RX4 36 "TollSills" "sheets" "LTollSills$Sheets;") (ts_wx_in (q := 1144) (by decide +kernel))) (fun _ h9 => h9) rfl hin rfl (by decide +kernel) rfl rfl (Nat.le_of_ble_eq_true rfl) dX4_init_61 (fun H locs hP hD hS => ?_)
  have hP : va_P D ts_vc ((h0, .inr (3, [(.ref q1), (.ref q2), (.ref q3), (.int 0), (.ref q4), (.ref q5), .null])) :: (wwQ cA q1 u1 f1 ++ wwQ cA q2 u2 f2 ++ wwQ cA q3 u3 f3 ++ wwT cA q4 u4 ++ wwS cA q5 u5)) H := hP
  have hD : va_D A ((h0, .inr (3, [(.ref q1), (.ref q2), (.ref q3), (.int 0), (.ref q4), (.ref q5), .null])) :: (wwQ cA q1 u1 f1 ++ wwQ cA q2 u2 f2 ++ wwQ cA q3 u3 f3 ++ wwT cA q4 u4 ++ wwS cA q5 u5)) := hD
  refine lv_aload_n hx hb dX4_init_64 rfl (lv_at hl 0 rfl) ?_
  refine lv_bipush (v := 7) hx hb dX4_init_65 (by decide) ?_
  refine n_newi (N := 7) hx hb (tb (.arrayClass .int) (ts_wx_in (q := 1094) (by decide +kernel))) hK rfl hP hD hS hA (by decide) (by decide) (Nat.le_of_ble_eq_true rfl) (Nat.le_of_ble_eq_true rfl) (Nat.le_of_ble_eq_true rfl) dX4_init_67 (fun a1 H hP hD hS => ?_)
  have hP : va_P D ts_vc ((h0, .inr (3, [(.ref q1), (.ref q2), (.ref q3), (.int 0), (.ref q4), (.ref q5), .null])) :: (wwQ cA q1 u1 f1 ++ wwQ cA q2 u2 f2 ++ wwQ cA q3 u3 f3 ++ wwT cA q4 u4 ++ wwS cA q5 u5 ++ [(a1, .inl (cA, 7, .inl z0))])) H := hP
  have hD : va_D A ((h0, .inr (3, [(.ref q1), (.ref q2), (.ref q3), (.int 0), (.ref q4), (.ref q5), .null])) :: (wwQ cA q1 u1 f1 ++ wwQ cA q2 u2 f2 ++ wwQ cA q3 u3 f3 ++ wwT cA q4 u4 ++ wwS cA q5 u5 ++ [(a1, .inl (cA, 7, .inl z0))])) := hD
  refine va_putF (D := D) (ci := 3) (v := (.ref a1)) (ty := (.array .int)) (C := RX4) (T := TX4) (N := 7) hx hb hts hin0 tyX4 tyX4_ok nmX4 hown hK hP hD hS 0 rfl rfl 6 (by decide) (tb (.fieldLink RX4 40 "TollSills" "found" "[I") (ts_wx_in (q := 1145) (by decide +kernel))) (fun _ h9 => h9) rfl hin rfl (by decide +kernel) rfl rfl (Nat.le_of_ble_eq_true rfl) dX4_init_69 (fun H locs hP hD hS => ?_)
  have hP : va_P D ts_vc ((h0, .inr (3, [(.ref q1), (.ref q2), (.ref q3), (.int 0), (.ref q4), (.ref q5), (.ref a1)])) :: (wwQ cA q1 u1 f1 ++ wwQ cA q2 u2 f2 ++ wwQ cA q3 u3 f3 ++ wwT cA q4 u4 ++ wwS cA q5 u5 ++ [(a1, .inl (cA, 7, .inl z0))])) H := hP
  have hD : va_D A ((h0, .inr (3, [(.ref q1), (.ref q2), (.ref q3), (.int 0), (.ref q4), (.ref q5), (.ref a1)])) :: (wwQ cA q1 u1 f1 ++ wwQ cA q2 u2 f2 ++ wwQ cA q3 u3 f3 ++ wwT cA q4 u4 ++ wwS cA q5 u5 ++ [(a1, .inl (cA, 7, .inl z0))])) := hD
  refine W.widen (k := 40) (n := 667) (Nat.le_of_ble_eq_true rfl) (Nat.le_of_ble_eq_true rfl) ?_
  exact W.vret hx hb hr (fun t ht hW => ⟨⟨(), rfl, trivial, q1, u1, f1, q2, u2, f2, q3, u3, f3, q4, u4, q5, u5, a1, ⟨hw1, hw2, hw3⟩, by rw [ht]; exact hP, va_K.moved hW.alike hK, hD⟩, hS.F ht⟩) hS.2.2 dX4_init_72 hlocks
