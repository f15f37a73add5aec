/-! the law, from its entry -/
theorem dL_0 : decode code 0 = .ok (.new 7, 3) := by decide +kernel
theorem dL_3 : decode code 3 = .ok (.dup, 1) := by decide +kernel
theorem dL_4 : decode code 4 = .ok (.invokespecial 9, 3) := by decide +kernel
theorem dL_7 : decode code 7 = .ok (.astore_n 1, 1) := by decide +kernel
theorem dL_8 : decode code 8 = .ok (.new 10, 3) := by decide +kernel
theorem dL_11 : decode code 11 = .ok (.dup, 1) := by decide +kernel
theorem dL_12 : decode code 12 = .ok (.invokespecial 12, 3) := by decide +kernel
theorem dL_15 : decode code 15 = .ok (.astore_n 2, 1) := by decide +kernel
theorem dL_16 : decode code 16 = .ok (.iconst 0, 1) := by decide +kernel
theorem dL_17 : decode code 17 = .ok (.istore_n 3, 1) := by decide +kernel
set_option maxHeartbeats 8000000 in
set_option maxRecDepth 100000 in
theorem whole_start {p : Program} {e : Env} {s : State} {m : MethodId} {below : List Frame} {meth : Method} {c : Code} (l : Launch) (hflags : l.flags = flags0) {b L : Nat} {xs : Nat → Int32} (hL : L ≤ 3072) (C0 : lw_At p s m meth c b L xs) : W p l e room_1 s m #[Value.ref b] below meth c s.heap [] 0 0 (lw_Z below #[Value.ref b] s) (entryFrame m ([Value.ref b] : List Value).toArray 4) := by
  obtain ⟨hx, hb, hr, hml, hown, hts, hX, hbl, hlocks, hgv⟩ := id C0
  obtain ⟨D, cA, cS, aS, aV, hY, hAO, hN1, hN2⟩ := known_start C0
  obtain ⟨hK, hStr, hRef, hNw, hZ, hZq⟩ := hY (fun _ _ => 0)
  have hK : va_K D ts_vc [(cA, .int), (cS, .object "java/lang/String")] s := hK
  have hA : ∀ q : Nat, s.heap.size ≤ q → (fun q : Nat => s.heap.size ≤ q) q := fun _ h => h
  have hS : va_S (fun q : Nat => s.heap.size ≤ q) s.heap s.heap [] := va_S.rf
  have hP : va_P D ts_vc [] s.heap := fun k q h => by simp at h
  have hD : va_D (fun q : Nat => s.heap.size ≤ q) [] := ⟨fun i j p q h => by simp at h, fun k q h => by simp at h⟩
  have hin : ∀ k, k < 5 → ∀ w ∈ ts_lw k, w ∈ lw_tbl := fun k h w hw => (List.mem_filter.mp (ts_lw_in h w hw)).1
  have hTB : ∀ w ∈ ts_TB, w ∈ lw_tbl := fun w h => (List.mem_filter.mp h).1
  have hl := lv_entry ([.ref b]) (n := 4) (Nat.le_of_ble_eq_true rfl)
  rw [lg_entry_eq]
  generalize (lg_sl ([.ref b]) ++ List.replicate (4 - (lg_sl ([.ref b])).length) Slot.unset).toArray = ls at hl ⊢
  have hl : lv_has ls 4 [(0, .ref b)] := hl
  refine va_new (ci := 3) (fs := [.null, .null, .null, .int 0, .null, .null, .null]) (C := RX4) (T := TX4) (N := 7) hx hb hts (hin 3 (by decide)) tyX4 tyX4_ok hown (hts (.classLink RL 7 RX4) (ts_wd_in (q := 1014) (by decide +kernel))) (hts (.instantiable RX4 7) (ts_wd_in (q := 1015) (by decide +kernel))) (hts (.initialized RX4) (ts_wd_in (q := 1001) (by decide +kernel))) hK hP hD hS hA rfl (fun j hj => by rcases (show j = 0 ∨ j = 1 ∨ j = 2 ∨ j = 3 ∨ j = 4 ∨ j = 5 ∨ j = 6 by omega) with rfl | rfl | rfl | rfl | rfl | rfl | rfl <;> rfl) (Nat.le_of_ble_eq_true rfl) (Nat.le_of_ble_eq_true rfl) dL_0 (fun h0 H hP hD hS => ?_)
  have hP : va_P D ts_vc [(h0, .inr (3, [.null, .null, .null, .int 0, .null, .null, .null]))] H := hP
  have hD : va_D (fun q : Nat => s.heap.size ≤ q) [(h0, .inr (3, [.null, .null, .null, .int 0, .null, .null, .null]))] := hD
  refine lv_dup hx hb dL_3 rfl ?_
  have hFc := va_free (wc := [(h0, .inr (3, [.null, .null, .null, .int 0, .null, .null, .null]))]) hD hS hA [0] rfl
  refine va_callv (va_runI (As := []) (rest := [.ref h0]) ⟨hx, hb, hml, hown, hts⟩ (c_X4_init l D cA cS h0 H.size) ⟨callB_of 0 hts (ts_good (mi := m_X4) hTB (ts_wx_in (q := 1018) (by decide +kernel))) rfl rfl rfl (hts (.initialized RX4) (ts_wd_in (q := 1001) (by decide +kernel))) (hts (.methodLink RL 9 yX4_init) (ts_wd_in (q := 1016) (by decide +kernel))) ⟨by decide, by decide, by decide +kernel⟩ ⟨Nat.le_of_ble_eq_true rfl, Nat.le_of_ble_eq_true rfl⟩, rfl, (hts (.instanceMethod yX4_init) (ts_wd_in (q := 1017) (by decide +kernel)))⟩ ⟨fun a U g mk q => by obtain ⟨q0, q1, qP, qK, qD, qN, qM⟩ := q; exact ⟨q0, q1, qP, va_K.moved (u := U) (U := U.calling g mk a) (Vm.Alike.refl U.vm) qK, qD, va_Nw.same rfl rfl qN, va_Nw.same rfl rfl qM⟩, fun U hU hW => ⟨rfl, by rw [hU], by rw [hU]; exact hP, va_K.moved hW.alike hK, hD.weaken (fun _ _ _ _ => trivial), va_Nw.warmM hW hN1, va_Nw.warmM hW hN2⟩⟩ rfl rfl hl.1 rfl (lv_room (Nat.le_of_ble_eq_true rfl)) dL_4 ⟨Nat.le_of_ble_eq_true rfl, Nat.le_of_ble_eq_true rfl⟩) hS (fun q _ h => hFc q h) hFc (fun u t H1 locs ht hvm hw hB hz1 hk1 hS => ?_)
  obtain ⟨q1, u1, f1, q2, u2, f2, q3, u3, f3, q4, u4, q5, u5, a1, ⟨hf1, hf2, hf3⟩, hP1, hK1, hD1⟩ := hB
  rw [ht] at hP1
  obtain ⟨hP, hD⟩ := va_join (wr := []) (w1 := ww4 cA h0 q1 u1 f1 q2 u2 f2 q3 u3 f3 q4 u4 q5 u5 a1) hP hD [0] [] rfl rfl (by decide) (by decide) hk1 hFc hP1 hD1
  generalize H1 = H at hP hS ⊢
  have hP : va_P D ts_vc (ww4 cA h0 q1 u1 f1 q2 u2 f2 q3 u3 f3 q4 u4 q5 u5 a1) H := hP
  have hD : va_D (fun q : Nat => s.heap.size ≤ q) (ww4 cA h0 q1 u1 f1 q2 u2 f2 q3 u3 f3 q4 u4 q5 u5 a1) := hD
  refine W.widen (k := 41) (n := 674) (Nat.le_of_ble_eq_true rfl) (Nat.le_of_ble_eq_true rfl) ?_
  refine lv_astore_n (lv' := [(1, .ref h0), (0, .ref b)]) hx hb dL_7 rfl hl (by decide) rfl (fun ls hl => ?_)
  refine va_new (ci := 4) (fs := [.null, .null, .null, .int 0, .null, .null, .int 0, .int 0, .int 0, .int 0, .int 0, .int 0, .null, .null, .int 0, .int 0, .int 0, .null, .null, .null, .null]) (C := RX5) (T := TX5) (N := 21) hx hb hts (hin 4 (by decide)) tyX5 tyX5_ok hown (hts (.classLink RL 10 RX5) (ts_wd_in (q := 3209) (by decide +kernel))) (hts (.instantiable RX5 21) (ts_wd_in (q := 3210) (by decide +kernel))) (hts (.initialized RX5) (ts_wd_in (q := 1005) (by decide +kernel))) hK hP hD hS hA rfl (fun j hj => by rcases (show j = 0 ∨ j = 1 ∨ j = 2 ∨ j = 3 ∨ j = 4 ∨ j = 5 ∨ j = 6 ∨ j = 7 ∨ j = 8 ∨ j = 9 ∨ j = 10 ∨ j = 11 ∨ j = 12 ∨ j = 13 ∨ j = 14 ∨ j = 15 ∨ j = 16 ∨ j = 17 ∨ j = 18 ∨ j = 19 ∨ j = 20 by omega) with rfl | rfl | rfl | rfl | rfl | rfl | rfl | rfl | rfl | rfl | rfl | rfl | rfl | rfl | rfl | rfl | rfl | rfl | rfl | rfl | rfl <;> rfl) (Nat.le_of_ble_eq_true rfl) (Nat.le_of_ble_eq_true rfl) dL_8 (fun hm H hP hD hS => ?_)
  have hP : va_P D ts_vc (ww4 cA h0 q1 u1 f1 q2 u2 f2 q3 u3 f3 q4 u4 q5 u5 a1 ++ [(hm, .inr (4, [.null, .null, .null, .int 0, .null, .null, .int 0, .int 0, .int 0, .int 0, .int 0, .int 0, .null, .null, .int 0, .int 0, .int 0, .null, .null, .null, .null]))]) H := hP
  have hD : va_D (fun q : Nat => s.heap.size ≤ q) (ww4 cA h0 q1 u1 f1 q2 u2 f2 q3 u3 f3 q4 u4 q5 u5 a1 ++ [(hm, .inr (4, [.null, .null, .null, .int 0, .null, .null, .int 0, .int 0, .int 0, .int 0, .int 0, .int 0, .null, .null, .int 0, .int 0, .int 0, .null, .null, .null, .null]))]) := hD
  refine lv_dup hx hb dL_11 rfl ?_
  have hPc := hP.sub (ws' := [(hm, .inr (4, [.null, .null, .null, .int 0, .null, .null, .int 0, .int 0, .int 0, .int 0, .int 0, .int 0, .null, .null, .int 0, .int 0, .int 0, .null, .null, .null, .null]))]) [41] rfl
  have hDc := hD.sub (ws' := [(hm, .inr (4, [.null, .null, .null, .int 0, .null, .null, .int 0, .int 0, .int 0, .int 0, .int 0, .int 0, .null, .null, .int 0, .int 0, .int 0, .null, .null, .null, .null]))]) [41] (by decide) rfl
  have hFc := va_free (wc := [(hm, .inr (4, [.null, .null, .null, .int 0, .null, .null, .int 0, .int 0, .int 0, .int 0, .int 0, .int 0, .null, .null, .int 0, .int 0, .int 0, .null, .null, .null, .null]))]) hD hS hA [41] rfl
  have hO0 : ∀ U : State, U.heap = H → s.WarmedH U.vm → va_O "java/lang/String" (aS 0) (va_A [(hm, .inr (4, [.null, .null, .null, .int 0, .null, .null, .int 0, .int 0, .int 0, .int 0, .int 0, .int 0, .null, .null, .int 0, .int 0, .int 0, .null, .null, .null, .null]))] H.size) U U.heap := fun U hU hW => by rw [hU]; exact (va_O.moved hW.alike ((hStr 0 (by decide)).1.kept hS.2.1)).narrow (fun q h => hFc q h)
  have hR0 : vk_R RX5 27 "sill" (aS 0) s := hRef (RX5, 27, "sill", 0) (List.mem_of_getElem? (i := 13) rfl)
  have hO1 : ∀ U : State, U.heap = H → s.WarmedH U.vm → va_O "java/lang/String" (aS 1) (va_A [(hm, .inr (4, [.null, .null, .null, .int 0, .null, .null, .int 0, .int 0, .int 0, .int 0, .int 0, .int 0, .null, .null, .int 0, .int 0, .int 0, .null, .null, .null, .null]))] H.size) U U.heap := fun U hU hW => by rw [hU]; exact (va_O.moved hW.alike ((hStr 1 (by decide)).1.kept hS.2.1)).narrow (fun q h => hFc q h)
  have hR1 : vk_R RX5 29 "church" (aS 1) s := hRef (RX5, 29, "church", 1) (List.mem_of_getElem? (i := 14) rfl)
  have hO2 : ∀ U : State, U.heap = H → s.WarmedH U.vm → va_O "java/lang/String" (aS 2) (va_A [(hm, .inr (4, [.null, .null, .null, .int 0, .null, .null, .int 0, .int 0, .int 0, .int 0, .int 0, .int 0, .null, .null, .int 0, .int 0, .int 0, .null, .null, .null, .null]))] H.size) U U.heap := fun U hU hW => by rw [hU]; exact (va_O.moved hW.alike ((hStr 2 (by decide)).1.kept hS.2.1)).narrow (fun q h => hFc q h)
  have hR2 : vk_R RX5 31 "saloon" (aS 2) s := hRef (RX5, 31, "saloon", 2) (List.mem_of_getElem? (i := 15) rfl)
  have hO3 : ∀ U : State, U.heap = H → s.WarmedH U.vm → va_O "java/lang/String" (aS 3) (va_A [(hm, .inr (4, [.null, .null, .null, .int 0, .null, .null, .int 0, .int 0, .int 0, .int 0, .int 0, .int 0, .null, .null, .int 0, .int 0, .int 0, .null, .null, .null, .null]))] H.size) U U.heap := fun U hU hW => by rw [hU]; exact (va_O.moved hW.alike ((hStr 3 (by decide)).1.kept hS.2.1)).narrow (fun q h => hFc q h)
  have hR3 : vk_R RX5 33 "poor" (aS 3) s := hRef (RX5, 33, "poor", 3) (List.mem_of_getElem? (i := 16) rfl)
  have hO4 : ∀ U : State, U.heap = H → s.WarmedH U.vm → va_O "java/lang/String" (aS 4) (va_A [(hm, .inr (4, [.null, .null, .null, .int 0, .null, .null, .int 0, .int 0, .int 0, .int 0, .int 0, .int 0, .null, .null, .int 0, .int 0, .int 0, .null, .null, .null, .null]))] H.size) U U.heap := fun U hU hW => by rw [hU]; exact (va_O.moved hW.alike ((hStr 4 (by decide)).1.kept hS.2.1)).narrow (fun q h => hFc q h)
  have hR4 : vk_R RX5 35 "inn" (aS 4) s := hRef (RX5, 35, "inn", 4) (List.mem_of_getElem? (i := 17) rfl)
  have hO5 : ∀ U : State, U.heap = H → s.WarmedH U.vm → va_O "java/lang/String" (aS 5) (va_A [(hm, .inr (4, [.null, .null, .null, .int 0, .null, .null, .int 0, .int 0, .int 0, .int 0, .int 0, .int 0, .null, .null, .int 0, .int 0, .int 0, .null, .null, .null, .null]))] H.size) U U.heap := fun U hU hW => by rw [hU]; exact (va_O.moved hW.alike ((hStr 5 (by decide)).1.kept hS.2.1)).narrow (fun q h => hFc q h)
  have hR5 : vk_R RX5 37 "bare" (aS 5) s := hRef (RX5, 37, "bare", 5) (List.mem_of_getElem? (i := 18) rfl)
  have hO6 : ∀ U : State, U.heap = H → s.WarmedH U.vm → va_O "java/lang/String" (aS 6) (va_A [(hm, .inr (4, [.null, .null, .null, .int 0, .null, .null, .int 0, .int 0, .int 0, .int 0, .int 0, .int 0, .null, .null, .int 0, .int 0, .int 0, .null, .null, .null, .null]))] H.size) U U.heap := fun U hU hW => by rw [hU]; exact (va_O.moved hW.alike ((hStr 6 (by decide)).1.kept hS.2.1)).narrow (fun q h => hFc q h)
  have hR6 : vk_R RX5 39 "marble" (aS 6) s := hRef (RX5, 39, "marble", 6) (List.mem_of_getElem? (i := 19) rfl)
  refine va_callv (va_runI (As := []) (rest := [.ref hm]) ⟨hx, hb, hml, hown, hts⟩ (c_X5_init l D cA cS aS hm H.size) ⟨callB_of 0 hts (ts_good (mi := m_X5) hTB (ts_wx_in (q := 3213) (by decide +kernel))) rfl rfl rfl (hts (.initialized RX5) (ts_wd_in (q := 1005) (by decide +kernel))) (hts (.methodLink RL 12 yX5_init) (ts_wd_in (q := 3211) (by decide +kernel))) ⟨by decide, by decide, by decide +kernel⟩ ⟨Nat.le_of_ble_eq_true rfl, Nat.le_of_ble_eq_true rfl⟩, rfl, (hts (.instanceMethod yX5_init) (ts_wd_in (q := 3212) (by decide +kernel)))⟩ ⟨fun a U g mk q => by obtain ⟨q0, q1, qP, qK, qD, ⟨⟨qO0, qR0⟩, ⟨qO1, qR1⟩, ⟨qO2, qR2⟩, ⟨qO3, qR3⟩, ⟨qO4, qR4⟩, ⟨qO5, qR5⟩, ⟨qO6, qR6⟩⟩, qA⟩ := q; exact ⟨q0, q1, qP, va_K.moved (u := U) (U := U.calling g mk a) (Vm.Alike.refl U.vm) qK, qD, ⟨⟨qO0.moved (Vm.Alike.refl U.vm), qR0.same rfl⟩, ⟨qO1.moved (Vm.Alike.refl U.vm), qR1.same rfl⟩, ⟨qO2.moved (Vm.Alike.refl U.vm), qR2.same rfl⟩, ⟨qO3.moved (Vm.Alike.refl U.vm), qR3.same rfl⟩, ⟨qO4.moved (Vm.Alike.refl U.vm), qR4.same rfl⟩, ⟨qO5.moved (Vm.Alike.refl U.vm), qR5.same rfl⟩, ⟨qO6.moved (Vm.Alike.refl U.vm), qR6.same rfl⟩⟩, va_AO.moved (u := U) (U := U.calling g mk a) (Vm.Alike.refl U.vm) qA⟩, fun U hU hW => ⟨rfl, by rw [hU], by rw [hU]; exact hPc, va_K.moved hW.alike hK, hDc.weaken (fun _ _ _ _ => trivial), ⟨⟨hO0 U hU hW, hR0.warm hW⟩, ⟨hO1 U hU hW, hR1.warm hW⟩, ⟨hO2 U hU hW, hR2.warm hW⟩, ⟨hO3 U hU hW, hR3.warm hW⟩, ⟨hO4 U hU hW, hR4.warm hW⟩, ⟨hO5 U hU hW, hR5.warm hW⟩, ⟨hO6 U hU hW, hR6.warm hW⟩⟩, va_AO.moved hW.alike hAO⟩⟩ rfl rfl hl.1 rfl (lv_room (Nat.le_of_ble_eq_true rfl)) dL_12 ⟨Nat.le_of_ble_eq_true rfl, Nat.le_of_ble_eq_true rfl⟩) hS (fun q _ h => hFc q h) hFc (fun u t H1 locs ht hvm hw hB hz1 hk1 hS => ?_)
  obtain ⟨u6, f⟩ := u
  obtain ⟨hP1, hK1, hD1⟩ := hB
  rw [ht] at hP1
  obtain ⟨hP, hD⟩ := va_join (wr := ww4 cA h0 q1 u1 f1 q2 u2 f2 q3 u3 f3 q4 u4 q5 u5 a1) (w1 := ww5 cA cS aS hm u6 f) hP hD [41] [0, 1, 2, 3, 4, 5, 6, 7, 8, 9, 10, 11, 12, 13, 14, 15, 16, 17, 18, 19, 20, 21, 22, 23, 24, 25, 26, 27, 28, 29, 30, 31, 32, 33, 34, 35, 36, 37, 38, 39, 40] rfl rfl (by decide) (by decide) hk1 hFc hP1 hD1
  generalize H1 = H at hP hS ⊢
  refine W.widen (k := 53) (n := 2331) (Nat.le_of_ble_eq_true rfl) (Nat.le_of_ble_eq_true rfl) ?_
  refine lv_astore_n (lv' := [(2, .ref hm), (1, .ref h0), (0, .ref b)]) hx hb dL_15 rfl hl (by decide) rfl (fun ls hl => ?_)
  refine lv_iconst (v := 0) hx hb dL_16 (by decide) ?_
  refine lv_istore_n (lv' := [(3, .int 0), (2, .ref hm), (1, .ref h0), (0, .ref b)]) hx hb dL_17 rfl hl (by decide) rfl (fun ls hl => ?_)
  obtain ⟨X, eX⟩ : ∃ X : ts_X, X = (D, (fun g c => (([[h0, a1], [q1, u1 1, u1 2, u1 3, u1 4, u1 5, u1 6, u1 7, u1 8, u1 9, u1 10], [q2, u2 1, u2 2, u2 3, u2 4, u2 5, u2 6, u2 7, u2 8, u2 9, u2 10], [q3, u3 1, u3 2, u3 3, u3 4, u3 5, u3 6, u3 7, u3 8, u3 9, u3 10], [q4, u4 1], [q5, u5 1, u5 2, u5 3], [hm, u6 1, u6 2, u6 3, u6 4, u6 5, u6 6, u6 7, u6 8, u6 9, u6 10, u6 11]] : List (List Nat)).getD g []).getD c 0), aS, aV, cA, cS, (fun q : Nat => s.heap.size ≤ q)) := ⟨_, rfl⟩
  have hP : va_P X.1 ts_vc (ts_ws X (s0 f1 f2 f3 f)) H := by rw [eX]; exact hP.sub [0, 40, 1, 2, 3, 4, 5, 6, 7, 8, 9, 10, 11, 12, 13, 14, 15, 16, 17, 18, 19, 20, 21, 22, 23, 24, 25, 26, 27, 28, 29, 30, 31, 32, 33, 34, 35, 36, 37, 38, 39, 41, 42, 43, 44, 45, 46, 47, 48, 49, 50, 51, 52] rfl
  have hD : va_D X.2.2.2.2.2.2 (ts_ws X (s0 f1 f2 f3 f)) := by rw [eX]; exact hD.sub [0, 40, 1, 2, 3, 4, 5, 6, 7, 8, 9, 10, 11, 12, 13, 14, 15, 16, 17, 18, 19, 20, 21, 22, 23, 24, 25, 26, 27, 28, 29, 30, 31, 32, 33, 34, 35, 36, 37, 38, 39, 41, 42, 43, 44, 45, 46, 47, 48, 49, 50, 51, 52] (by decide) rfl
  have hDa := D_any hD
  have hYX : ts_Y X s s.heap := by rw [eX]; exact hY _
  have hAX : X.2.2.2.2.2.2 = (fun q : Nat => s.heap.size ≤ q) := by rw [eX]
  have C : ts_Cx X p s m #[Value.ref b] meth c code 4 RL lw_tbl := ⟨hx, hb, hml, hown, hts, hTB, hYX, hDa, hlocks⟩
  have hSX : va_S X.2.2.2.2.2.2 s.heap H locs := by rw [hAX]; exact hS
  have e0 : X.2.1 0 0 = h0 := by rw [eX]; rfl
  have e6 : X.2.1 6 0 = hm := by rw [eX]; rfl
  refine lw_loop hL C0 hAX C (J_of hDa) 600 0 (s0 f1 f2 f3 f) H locs ls (by omega) (by omega) (INV_0 hf1 hw.1 hw.2) hP hSX ?_
  rw [e0, e6]
  exact lv_sub hl [3, 2, 1, 0] rfl
