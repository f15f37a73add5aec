/-! the constructor of the model -/
theorem dX5_init_0 : decode cX5_init 0 = .ok (.aload_n 0, 1) := by decide +kernel
theorem dX5_init_1 : decode cX5_init 1 = .ok (.invokespecial 1, 3) := by decide +kernel
theorem dX5_init_4 : decode cX5_init 4 = .ok (.aload_n 0, 1) := by decide +kernel
theorem dX5_init_5 : decode cX5_init 5 = .ok (.bipush 111, 2) := by decide +kernel
theorem dX5_init_7 : decode cX5_init 7 = .ok (.newarray .int, 2) := by decide +kernel
theorem dX5_init_9 : decode cX5_init 9 = .ok (.putfield 9, 3) := by decide +kernel
theorem dX5_init_12 : decode cX5_init 12 = .ok (.aload_n 0, 1) := by decide +kernel
theorem dX5_init_13 : decode cX5_init 13 = .ok (.bipush 111, 2) := by decide +kernel
theorem dX5_init_15 : decode cX5_init 15 = .ok (.newarray .int, 2) := by decide +kernel
theorem dX5_init_17 : decode cX5_init 17 = .ok (.putfield 13, 3) := by decide +kernel
theorem dX5_init_20 : decode cX5_init 20 = .ok (.aload_n 0, 1) := by decide +kernel
theorem dX5_init_21 : decode cX5_init 21 = .ok (.bipush 111, 2) := by decide +kernel
theorem dX5_init_23 : decode cX5_init 23 = .ok (.newarray .int, 2) := by decide +kernel
theorem dX5_init_25 : decode cX5_init 25 = .ok (.putfield 16, 3) := by decide +kernel
theorem dX5_init_28 : decode cX5_init 28 = .ok (.aload_n 0, 1) := by decide +kernel
theorem dX5_init_29 : decode cX5_init 29 = .ok (.bipush 8, 2) := by decide +kernel
theorem dX5_init_31 : decode cX5_init 31 = .ok (.newarray .int, 2) := by decide +kernel
theorem dX5_init_33 : decode cX5_init 33 = .ok (.putfield 19, 3) := by decide +kernel
theorem dX5_init_36 : decode cX5_init 36 = .ok (.aload_n 0, 1) := by decide +kernel
theorem dX5_init_37 : decode cX5_init 37 = .ok (.bipush 120, 2) := by decide +kernel
theorem dX5_init_39 : decode cX5_init 39 = .ok (.newarray .int, 2) := by decide +kernel
theorem dX5_init_41 : decode cX5_init 41 = .ok (.putfield 22, 3) := by decide +kernel
theorem dX5_init_44 : decode cX5_init 44 = .ok (.aload_n 0, 1) := by decide +kernel
theorem dX5_init_45 : decode cX5_init 45 = .ok (.bipush 7, 2) := by decide +kernel
theorem dX5_init_47 : decode cX5_init 47 = .ok (.anewarray 25, 3) := by decide +kernel
theorem dX5_init_50 : decode cX5_init 50 = .ok (.dup, 1) := by decide +kernel
theorem dX5_init_51 : decode cX5_init 51 = .ok (.iconst 0, 1) := by decide +kernel
theorem dX5_init_52 : decode cX5_init 52 = .ok (.ldc 27, 2) := by decide +kernel
theorem dX5_init_54 : decode cX5_init 54 = .ok (.aastore, 1) := by decide +kernel
theorem dX5_init_55 : decode cX5_init 55 = .ok (.dup, 1) := by decide +kernel
theorem dX5_init_56 : decode cX5_init 56 = .ok (.iconst 1, 1) := by decide +kernel
theorem dX5_init_57 : decode cX5_init 57 = .ok (.ldc 29, 2) := by decide +kernel
theorem dX5_init_59 : decode cX5_init 59 = .ok (.aastore, 1) := by decide +kernel
theorem dX5_init_60 : decode cX5_init 60 = .ok (.dup, 1) := by decide +kernel
theorem dX5_init_61 : decode cX5_init 61 = .ok (.iconst 2, 1) := by decide +kernel
theorem dX5_init_62 : decode cX5_init 62 = .ok (.ldc 31, 2) := by decide +kernel
theorem dX5_init_64 : decode cX5_init 64 = .ok (.aastore, 1) := by decide +kernel
theorem dX5_init_65 : decode cX5_init 65 = .ok (.dup, 1) := by decide +kernel
theorem dX5_init_66 : decode cX5_init 66 = .ok (.iconst 3, 1) := by decide +kernel
theorem dX5_init_67 : decode cX5_init 67 = .ok (.ldc 33, 2) := by decide +kernel
theorem dX5_init_69 : decode cX5_init 69 = .ok (.aastore, 1) := by decide +kernel
theorem dX5_init_70 : decode cX5_init 70 = .ok (.dup, 1) := by decide +kernel
theorem dX5_init_71 : decode cX5_init 71 = .ok (.iconst 4, 1) := by decide +kernel
theorem dX5_init_72 : decode cX5_init 72 = .ok (.ldc 35, 2) := by decide +kernel
theorem dX5_init_74 : decode cX5_init 74 = .ok (.aastore, 1) := by decide +kernel
theorem dX5_init_75 : decode cX5_init 75 = .ok (.dup, 1) := by decide +kernel
theorem dX5_init_76 : decode cX5_init 76 = .ok (.iconst 5, 1) := by decide +kernel
theorem dX5_init_77 : decode cX5_init 77 = .ok (.ldc 37, 2) := by decide +kernel
theorem dX5_init_79 : decode cX5_init 79 = .ok (.aastore, 1) := by decide +kernel
theorem dX5_init_80 : decode cX5_init 80 = .ok (.dup, 1) := by decide +kernel
theorem dX5_init_81 : decode cX5_init 81 = .ok (.bipush 6, 2) := by decide +kernel
theorem dX5_init_83 : decode cX5_init 83 = .ok (.ldc 39, 2) := by decide +kernel
theorem dX5_init_85 : decode cX5_init 85 = .ok (.aastore, 1) := by decide +kernel
theorem dX5_init_86 : decode cX5_init 86 = .ok (.putfield 41, 3) := by decide +kernel
theorem dX5_init_89 : decode cX5_init 89 = .ok (.aload_n 0, 1) := by decide +kernel
theorem dX5_init_90 : decode cX5_init 90 = .ok (.sipush 960, 3) := by decide +kernel
theorem dX5_init_93 : decode cX5_init 93 = .ok (.newarray .int, 2) := by decide +kernel
theorem dX5_init_95 : decode cX5_init 95 = .ok (.putfield 45, 3) := by decide +kernel
theorem dX5_init_98 : decode cX5_init 98 = .ok (.aload_n 0, 1) := by decide +kernel
theorem dX5_init_99 : decode cX5_init 99 = .ok (.iconst 4, 1) := by decide +kernel
theorem dX5_init_100 : decode cX5_init 100 = .ok (.newarray .int, 2) := by decide +kernel
theorem dX5_init_102 : decode cX5_init 102 = .ok (.putfield 48, 3) := by decide +kernel
theorem dX5_init_105 : decode cX5_init 105 = .ok (.aload_n 0, 1) := by decide +kernel
theorem dX5_init_106 : decode cX5_init 106 = .ok (.iconst 4, 1) := by decide +kernel
theorem dX5_init_107 : decode cX5_init 107 = .ok (.newarray .int, 2) := by decide +kernel
theorem dX5_init_109 : decode cX5_init 109 = .ok (.putfield 51, 3) := by decide +kernel
theorem dX5_init_112 : decode cX5_init 112 = .ok (.aload_n 0, 1) := by decide +kernel
theorem dX5_init_113 : decode cX5_init 113 = .ok (.sipush 160, 3) := by decide +kernel
theorem dX5_init_116 : decode cX5_init 116 = .ok (.newarray .int, 2) := by decide +kernel
theorem dX5_init_118 : decode cX5_init 118 = .ok (.putfield 54, 3) := by decide +kernel
theorem dX5_init_121 : decode cX5_init 121 = .ok (.aload_n 0, 1) := by decide +kernel
theorem dX5_init_122 : decode cX5_init 122 = .ok (.bipush 40, 2) := by decide +kernel
theorem dX5_init_124 : decode cX5_init 124 = .ok (.newarray .int, 2) := by decide +kernel
theorem dX5_init_126 : decode cX5_init 126 = .ok (.putfield 57, 3) := by decide +kernel
theorem dX5_init_129 : decode cX5_init 129 = .ok (.aload_n 0, 1) := by decide +kernel
theorem dX5_init_130 : decode cX5_init 130 = .ok (.getfield 9, 3) := by decide +kernel
theorem dX5_init_133 : decode cX5_init 133 = .ok (.iconst 2, 1) := by decide +kernel
theorem dX5_init_134 : decode cX5_init 134 = .ok (.iconst 1, 1) := by decide +kernel
theorem dX5_init_135 : decode cX5_init 135 = .ok (.iastore, 1) := by decide +kernel
theorem dX5_init_136 : decode cX5_init 136 = .ok (.iconst 0, 1) := by decide +kernel
theorem dX5_init_137 : decode cX5_init 137 = .ok (.istore_n 1, 1) := by decide +kernel
theorem dX5_init_138 : decode cX5_init 138 = .ok (.iload_n 1, 1) := by decide +kernel
theorem dX5_init_139 : decode cX5_init 139 = .ok (.bipush 10, 2) := by decide +kernel
theorem dX5_init_141 : decode cX5_init 141 = .ok (.if_icmp .ge 19, 3) := by decide +kernel
theorem dX5_init_144 : decode cX5_init 144 = .ok (.aload_n 0, 1) := by decide +kernel
theorem dX5_init_145 : decode cX5_init 145 = .ok (.getfield 9, 3) := by decide +kernel
theorem dX5_init_148 : decode cX5_init 148 = .ok (.bipush 11, 2) := by decide +kernel
theorem dX5_init_150 : decode cX5_init 150 = .ok (.iload_n 1, 1) := by decide +kernel
theorem dX5_init_151 : decode cX5_init 151 = .ok (.iadd, 1) := by decide +kernel
theorem dX5_init_152 : decode cX5_init 152 = .ok (.iconst (-1), 1) := by decide +kernel
theorem dX5_init_153 : decode cX5_init 153 = .ok (.iastore, 1) := by decide +kernel
theorem dX5_init_154 : decode cX5_init 154 = .ok (.iinc 1 1, 3) := by decide +kernel
theorem dX5_init_157 : decode cX5_init 157 = .ok (.goto (-19), 3) := by decide +kernel
theorem dX5_init_160 : decode cX5_init 160 = .ok (.return_, 1) := by decide +kernel
def m_X5 : ts_M := (yX5_init, cX5_init, 2, none, 0, 4)
theorem cs_one {s : State} {D : va_G} {cl : List vw_C} {tys : List (ClassId × FieldType)} {C : String} {cA cB : ClassId} (hK : va_K D cl tys s) {i j : Nat} (hi : tys[i]? = some (cA, .object C)) (hj : tys[j]? = some (cB, .object C)) : cB = cA := by
  obtain ⟨k1, c1, -, -, -, h1⟩ := (hK.2 i _ hi).2
  obtain ⟨k2, c2, -, -, -, h2⟩ := (hK.2 j _ hj).2
  exact Option.some.inj (h2.symm.trans h1)
theorem arr_c (cI : ClassId) {N : Nat} {f g : Nat → Value} (h : ∀ j, j < N → f j = g j) : arrV cI N f = arrV cI N g := by
  unfold arrV
  congr 1
  exact congrArg Array.ofFn (funext fun j => h j.val j.isLt)
theorem P_q {D : va_G} {cl : List vw_C} {ws : va_W} {H : Heap} (hP : va_P D cl ws H) {q0 a : Nat} {cI : ClassId} {N : Nat} {f g : Nat → Option Nat} (ha : ws[q0]? = some (a, .inl (cI, N, .inr (.inr (.inr (.inr f)))))) (h : ∀ j, j < N → f j = g j) : va_P D cl (ws.set q0 (a, .inl (cI, N, .inr (.inr (.inr (.inr g)))))) H := by
  intro k q hq
  rw [List.getElem?_set] at hq
  by_cases e : q0 = k
  · subst e
    rw [if_pos rfl, if_pos (List.getElem?_eq_some_iff.mp ha).1] at hq
    cases hq
    have h1 := hP q0 _ ha
    show H[a]? = some (vp_cell cI (N, .inr (.inr (.inr (.inr g)))))
    have h2 : H[a]? = some (vp_cell cI (N, .inr (.inr (.inr (.inr f))))) := h1
    rw [h2, vp_cell_q, vp_cell_q, arr_c cI (fun j hj => by rw [h j hj])]
  · rw [if_neg e] at hq
    exact hP k q hq
theorem O_any {E : String} {t : Nat} {A : Nat → Prop} {s : State} {H H1 : Heap} {locs : List Loc} (h : va_O E t A s H) (hS : va_S A H H1 locs) : va_Any E s H1 t := by
  obtain ⟨cell, h1, h2, h3, h4⟩ := h.kept hS.2.1
  obtain ⟨kC, hkC, -⟩ := Vm.findClass_spec h3
  refine ⟨cell, h1, h2, ⟨kC, hkC⟩, fun comp hc => ?_⟩
  have : comp = cell.cls := Option.some.inj (hc.symm.trans h3)
  subst this
  exact va_asg s.vm cell.cls
def ww5 (cA cS : ClassId) (aS : Nat → Nat) (h0 : Nat) (u : Nat → Nat) (f : Nat → Int32) : va_W := [(h0, .inr (4, [.ref (u 1), .ref (u 2), .ref (u 3), .int 0, .ref (u 4), .ref (u 5), .int 0, .int 0, .int 0, .int 0, .int 0, .int 0, .ref (u 6), .ref (u 7), .int 0, .int 0, .int 0, .ref (u 8), .ref (u 9), .ref (u 10), .ref (u 11)])), (u 1, .inl (cA, 111, .inl f)), (u 2, .inl (cA, 111, .inl z0)), (u 3, .inl (cA, 111, .inl z0)), (u 4, .inl (cA, 8, .inl z0)), (u 5, .inl (cA, 120, .inl z0)), (u 6, .inl (cS, 7, .inr (.inr (.inr (.inr (fun i => some (aS i))))))), (u 7, .inl (cA, 960, .inl z0)), (u 8, .inl (cA, 4, .inl z0)), (u 9, .inl (cA, 4, .inl z0)), (u 10, .inl (cA, 160, .inl z0)), (u 11, .inl (cA, 40, .inl z0))]
set_option maxHeartbeats 4000000 in
set_option maxRecDepth 100000 in
theorem c_X5_init (l : Launch) (D : va_G) (cA cS : ClassId) (aS : Nat → Nat) (h0 sz : Nat) : Met l yX5_init (ts_wl m_X5) ({ frames := 1, cells := 11, slots := 1636, locals := 39 }) (va_Pc [.ref h0] (fun U => U.heap.size = sz ∧ va_P D ts_vc [(h0, .inr (4, [.null, .null, .null, .int 0, .null, .null, .int 0, .int 0, .int 0, .int 0, .int 0, .int 0, .null, .null, .int 0, .int 0, .int 0, .null, .null, .null, .null]))] U.heap ∧ va_K D ts_vc [(cA, .int), (cS, .object "java/lang/String")] U ∧ va_D (fun _ => True) [(h0, .inr (4, [.null, .null, .null, .int 0, .null, .null, .int 0, .int 0, .int 0, .int 0, .int 0, .int 0, .null, .null, .int 0, .int 0, .int 0, .null, .null, .null, .null]))] ∧ ((va_O "java/lang/String" (aS 0) (va_A [(h0, .inr (4, [.null, .null, .null, .int 0, .null, .null, .int 0, .int 0, .int 0, .int 0, .int 0, .int 0, .null, .null, .int 0, .int 0, .int 0, .null, .null, .null, .null]))] sz) U U.heap ∧ vk_R RX5 27 "sill" (aS 0) U) ∧ (va_O "java/lang/String" (aS 1) (va_A [(h0, .inr (4, [.null, .null, .null, .int 0, .null, .null, .int 0, .int 0, .int 0, .int 0, .int 0, .int 0, .null, .null, .int 0, .int 0, .int 0, .null, .null, .null, .null]))] sz) U U.heap ∧ vk_R RX5 29 "church" (aS 1) U) ∧ (va_O "java/lang/String" (aS 2) (va_A [(h0, .inr (4, [.null, .null, .null, .int 0, .null, .null, .int 0, .int 0, .int 0, .int 0, .int 0, .int 0, .null, .null, .int 0, .int 0, .int 0, .null, .null, .null, .null]))] sz) U U.heap ∧ vk_R RX5 31 "saloon" (aS 2) U) ∧ (va_O "java/lang/String" (aS 3) (va_A [(h0, .inr (4, [.null, .null, .null, .int 0, .null, .null, .int 0, .int 0, .int 0, .int 0, .int 0, .int 0, .null, .null, .int 0, .int 0, .int 0, .null, .null, .null, .null]))] sz) U U.heap ∧ vk_R RX5 33 "poor" (aS 3) U) ∧ (va_O "java/lang/String" (aS 4) (va_A [(h0, .inr (4, [.null, .null, .null, .int 0, .null, .null, .int 0, .int 0, .int 0, .int 0, .int 0, .int 0, .null, .null, .int 0, .int 0, .int 0, .null, .null, .null, .null]))] sz) U U.heap ∧ vk_R RX5 35 "inn" (aS 4) U) ∧ (va_O "java/lang/String" (aS 5) (va_A [(h0, .inr (4, [.null, .null, .null, .int 0, .null, .null, .int 0, .int 0, .int 0, .int 0, .int 0, .int 0, .null, .null, .int 0, .int 0, .int 0, .null, .null, .null, .null]))] sz) U U.heap ∧ vk_R RX5 37 "bare" (aS 5) U) ∧ (va_O "java/lang/String" (aS 6) (va_A [(h0, .inr (4, [.null, .null, .null, .int 0, .null, .null, .int 0, .int 0, .int 0, .int 0, .int 0, .int 0, .null, .null, .int 0, .int 0, .int 0, .null, .null, .null, .null]))] sz) U U.heap ∧ vk_R RX5 39 "marble" (aS 6) U)) ∧ va_AO "java/lang/String" U)) (va_Qv (fun u : (Nat → Nat) × (Nat → Int32) => (∀ j, j < 10 → u.2 (11 + j) = -1) ∧ ∀ j, j < 11 → u.2 j = upd z0 2 1 j) (fun u t => va_P D ts_vc (ww5 cA cS aS h0 u.1 u.2) t.heap ∧ va_K D ts_vc [(cA, .int), (cS, .object "java/lang/String")] t ∧ va_D (va_A [(h0, .inr (4, [.null, .null, .null, .int 0, .null, .null, .int 0, .int 0, .int 0, .int 0, .int 0, .int 0, .null, .null, .int 0, .int 0, .int 0, .null, .null, .null, .null]))] sz) (ww5 cA cS aS h0 u.1 u.2)) (va_A [(h0, .inr (4, [.null, .null, .null, .int 0, .null, .null, .int 0, .int 0, .int 0, .int 0, .int 0, .int 0, .null, .null, .int 0, .int 0, .int 0, .null, .null, .null, .null]))] sz)) 11 1636 (va_A [(h0, .inr (4, [.null, .null, .null, .int 0, .null, .null, .int 0, .int 0, .int 0, .int 0, .int 0, .int 0, .null, .null, .int 0, .int 0, .int 0, .null, .null, .null, .null]))] sz) := by
  refine Met.ofW (cc := cX5_init) (maxL := 2) (ret := none) (by decide) rfl ?_
  intro p e s m args below meth c s₁ B hml hv
  obtain ⟨rfl, hsz, hP, hK, hD0, ⟨⟨hO0, hR0⟩, ⟨hO1, hR1⟩, ⟨hO2, hR2⟩, ⟨hO3, hR3⟩, ⟨hO4, hR4⟩, ⟨hO5, hR5⟩, ⟨hO6, hR6⟩⟩, hAO⟩ := hv
  have hx := B.exec
  have hb := B.bytes
  have hr := B.returns
  have hts := atoms_spec (ws := ts_wl m_X5) B.pre
  have tb : ∀ w ∈ ts_TB, w.before #[Value.ref h0] s = true := fun w h => hts w (List.mem_cons_of_mem _ h)
  have hin0 : ∀ w ∈ u_ws RX5 TX5 21, w ∈ ts_wl m_X5 := fun w h => List.mem_cons_of_mem _ (ts_lw_in (k := 4) (by decide) w h)
  have hown : s.vm.findClass RX5 = some m.cls := findClass_of_methodNamed B.named
  have hlocks := B.notSynchronized
  have hin : meth.name = "<init>" := (name_of_methodNamed B.named B.method).1
  subst hsz
  have hD := hD0.self (sz := s.heap.size)
  generalize hAe : va_A [(h0, .inr (4, [.null, .null, .null, .int 0, .null, .null, .int 0, .int 0, .int 0, .int 0, .int 0, .int 0, .null, .null, .int 0, .int 0, .int 0, .null, .null, .null, .null]))] s.heap.size = A at hD hO0 hO1 hO2 hO3 hO4 hO5 hO6 ⊢
  have hA : ∀ q : Nat, s.heap.size ≤ q → A q := fun q h => by rw [← hAe]; exact Or.inr h
  have hS : va_S A s.heap s.heap [] := va_S.rf
  have hP : va_P D ts_vc [(h0, .inr (4, [.null, .null, .null, .int 0, .null, .null, .int 0, .int 0, .int 0, .int 0, .int 0, .int 0, .null, .null, .int 0, .int 0, .int 0, .null, .null, .null, .null]))] s.heap := hP
  have hl := lv_entry ([.ref h0]) (n := 2) (Nat.le_of_ble_eq_true rfl)
  rw [lg_entry_eq]
  generalize (lg_sl ([.ref h0]) ++ List.replicate (2 - (lg_sl ([.ref h0])).length) Slot.unset).toArray = ls at hl ⊢
  have hl : lv_has ls 2 [(0, .ref h0)] := hl
  refine lv_aload_n hx hb dX5_init_0 rfl (lv_at hl 0 rfl) ?_
  refine W.objInit hx hb hown (tb (.methodLink RX5 1 objectInit) (ts_wx_in (q := 3214) (by decide +kernel))) (tb (.instanceMethod objectInit) (ts_wx_in (q := 1020) (by decide +kernel))) (tb (.code objectInit ⟨#[0xb1]⟩ 1 none) (ts_wx_in (q := 1021) (by decide +kernel))) rfl (by rw [hml]; exact hl.1) rfl dX5_init_1 (Nat.le_of_ble_eq_true rfl) (Nat.le_of_ble_eq_true rfl) ?_
  refine W.eq (g2 := F0 m 4 ls []) rfl ?_
  refine lv_aload_n hx hb dX5_init_4 rfl (lv_at hl 0 rfl) ?_
  refine lv_bipush (v := 111) hx hb dX5_init_5 (by decide) ?_
  refine n_newi (N := 111) hx hb (tb (.arrayClass .int) (ts_wx_in (q := 1094) (by decide +kernel))) hK rfl hP hD hS hA (by decide) (by decide) (Nat.le_of_ble_eq_true rfl) (Nat.le_of_ble_eq_true rfl) (Nat.le_of_ble_eq_true rfl) dX5_init_7 (fun a1 H hP hD hS => ?_)
  have hP : va_P D ts_vc [(h0, .inr (4, [.null, .null, .null, .int 0, .null, .null, .int 0, .int 0, .int 0, .int 0, .int 0, .int 0, .null, .null, .int 0, .int 0, .int 0, .null, .null, .null, .null])), (a1, .inl (cA, 111, .inl z0))] H := hP
  have hD : va_D A [(h0, .inr (4, [.null, .null, .null, .int 0, .null, .null, .int 0, .int 0, .int 0, .int 0, .int 0, .int 0, .null, .null, .int 0, .int 0, .int 0, .null, .null, .null, .null])), (a1, .inl (cA, 111, .inl z0))] := hD
  refine va_putF (D := D) (ci := 4) (v := (.ref a1)) (ty := (.array .int)) (C := RX5) (T := TX5) (N := 21) hx hb hts hin0 tyX5 tyX5_ok nmX5 hown hK hP hD hS 0 rfl rfl 0 (by decide) (tb (.fieldLink RX5 9 "TollSillsModel" "now" "[I") (ts_wx_in (q := 3224) (by decide +kernel))) (fun _ h9 => h9) rfl hin rfl (by decide +kernel) rfl rfl (Nat.le_of_ble_eq_true rfl) dX5_init_9 (fun H locs hP hD hS => ?_)
  have hP : va_P D ts_vc [(h0, .inr (4, [(.ref a1), .null, .null, .int 0, .null, .null, .int 0, .int 0, .int 0, .int 0, .int 0, .int 0, .null, .null, .int 0, .int 0, .int 0, .null, .null, .null, .null])), (a1, .inl (cA, 111, .inl z0))] H := hP
  have hD : va_D A [(h0, .inr (4, [(.ref a1), .null, .null, .int 0, .null, .null, .int 0, .int 0, .int 0, .int 0, .int 0, .int 0, .null, .null, .int 0, .int 0, .int 0, .null, .null, .null, .null])), (a1, .inl (cA, 111, .inl z0))] := hD
  refine lv_aload_n hx hb dX5_init_12 rfl (lv_at hl 0 rfl) ?_
  refine lv_bipush (v := 111) hx hb dX5_init_13 (by decide) ?_
  refine n_newi (N := 111) hx hb (tb (.arrayClass .int) (ts_wx_in (q := 1094) (by decide +kernel))) hK rfl hP hD hS hA (by decide) (by decide) (Nat.le_of_ble_eq_true rfl) (Nat.le_of_ble_eq_true rfl) (Nat.le_of_ble_eq_true rfl) dX5_init_15 (fun a2 H hP hD hS => ?_)
  have hP : va_P D ts_vc [(h0, .inr (4, [(.ref a1), .null, .null, .int 0, .null, .null, .int 0, .int 0, .int 0, .int 0, .int 0, .int 0, .null, .null, .int 0, .int 0, .int 0, .null, .null, .null, .null])), (a1, .inl (cA, 111, .inl z0)), (a2, .inl (cA, 111, .inl z0))] H := hP
  have hD : va_D A [(h0, .inr (4, [(.ref a1), .null, .null, .int 0, .null, .null, .int 0, .int 0, .int 0, .int 0, .int 0, .int 0, .null, .null, .int 0, .int 0, .int 0, .null, .null, .null, .null])), (a1, .inl (cA, 111, .inl z0)), (a2, .inl (cA, 111, .inl z0))] := hD
  refine va_putF (D := D) (ci := 4) (v := (.ref a2)) (ty := (.array .int)) (C := RX5) (T := TX5) (N := 21) hx hb hts hin0 tyX5 tyX5_ok nmX5 hown hK hP hD hS 0 rfl rfl 1 (by decide) (tb (.fieldLink RX5 13 "TollSillsModel" "kept" "[I") (ts_wx_in (q := 3225) (by decide +kernel))) (fun _ h9 => h9) rfl hin rfl (by decide +kernel) rfl rfl (Nat.le_of_ble_eq_true rfl) dX5_init_17 (fun H locs hP hD hS => ?_)
  have hP : va_P D ts_vc [(h0, .inr (4, [(.ref a1), (.ref a2), .null, .int 0, .null, .null, .int 0, .int 0, .int 0, .int 0, .int 0, .int 0, .null, .null, .int 0, .int 0, .int 0, .null, .null, .null, .null])), (a1, .inl (cA, 111, .inl z0)), (a2, .inl (cA, 111, .inl z0))] H := hP
  have hD : va_D A [(h0, .inr (4, [(.ref a1), (.ref a2), .null, .int 0, .null, .null, .int 0, .int 0, .int 0, .int 0, .int 0, .int 0, .null, .null, .int 0, .int 0, .int 0, .null, .null, .null, .null])), (a1, .inl (cA, 111, .inl z0)), (a2, .inl (cA, 111, .inl z0))] := hD
  refine lv_aload_n hx hb dX5_init_20 rfl (lv_at hl 0 rfl) ?_
  refine lv_bipush (v := 111) hx hb dX5_init_21 (by decide) ?_
  refine n_newi (N := 111) hx hb (tb (.arrayClass .int) (ts_wx_in (q := 1094) (by decide +kernel))) hK rfl hP hD hS hA (by decide) (by decide) (Nat.le_of_ble_eq_true rfl) (Nat.le_of_ble_eq_true rfl) (Nat.le_of_ble_eq_true rfl) dX5_init_23 (fun a3 H hP hD hS => ?_)
  have hP : va_P D ts_vc [(h0, .inr (4, [(.ref a1), (.ref a2), .null, .int 0, .null, .null, .int 0, .int 0, .int 0, .int 0, .int 0, .int 0, .null, .null, .int 0, .int 0, .int 0, .null, .null, .null, .null])), (a1, .inl (cA, 111, .inl z0)), (a2, .inl (cA, 111, .inl z0)), (a3, .inl (cA, 111, .inl z0))] H := hP
  have hD : va_D A [(h0, .inr (4, [(.ref a1), (.ref a2), .null, .int 0, .null, .null, .int 0, .int 0, .int 0, .int 0, .int 0, .int 0, .null, .null, .int 0, .int 0, .int 0, .null, .null, .null, .null])), (a1, .inl (cA, 111, .inl z0)), (a2, .inl (cA, 111, .inl z0)), (a3, .inl (cA, 111, .inl z0))] := hD
  refine va_putF (D := D) (ci := 4) (v := (.ref a3)) (ty := (.array .int)) (C := RX5) (T := TX5) (N := 21) hx hb hts hin0 tyX5 tyX5_ok nmX5 hown hK hP hD hS 0 rfl rfl 2 (by decide) (tb (.fieldLink RX5 16 "TollSillsModel" "aside" "[I") (ts_wx_in (q := 3226) (by decide +kernel))) (fun _ h9 => h9) rfl hin rfl (by decide +kernel) rfl rfl (Nat.le_of_ble_eq_true rfl) dX5_init_25 (fun H locs hP hD hS => ?_)
  have hP : va_P D ts_vc [(h0, .inr (4, [(.ref a1), (.ref a2), (.ref a3), .int 0, .null, .null, .int 0, .int 0, .int 0, .int 0, .int 0, .int 0, .null, .null, .int 0, .int 0, .int 0, .null, .null, .null, .null])), (a1, .inl (cA, 111, .inl z0)), (a2, .inl (cA, 111, .inl z0)), (a3, .inl (cA, 111, .inl z0))] H := hP
  have hD : va_D A [(h0, .inr (4, [(.ref a1), (.ref a2), (.ref a3), .int 0, .null, .null, .int 0, .int 0, .int 0, .int 0, .int 0, .int 0, .null, .null, .int 0, .int 0, .int 0, .null, .null, .null, .null])), (a1, .inl (cA, 111, .inl z0)), (a2, .inl (cA, 111, .inl z0)), (a3, .inl (cA, 111, .inl z0))] := hD
  refine lv_aload_n hx hb dX5_init_28 rfl (lv_at hl 0 rfl) ?_
  refine lv_bipush (v := 8) hx hb dX5_init_29 (by decide) ?_
  refine n_newi (N := 8) hx hb (tb (.arrayClass .int) (ts_wx_in (q := 1094) (by decide +kernel))) hK rfl hP hD hS hA (by decide) (by decide) (Nat.le_of_ble_eq_true rfl) (Nat.le_of_ble_eq_true rfl) (Nat.le_of_ble_eq_true rfl) dX5_init_31 (fun a4 H hP hD hS => ?_)
  have hP : va_P D ts_vc [(h0, .inr (4, [(.ref a1), (.ref a2), (.ref a3), .int 0, .null, .null, .int 0, .int 0, .int 0, .int 0, .int 0, .int 0, .null, .null, .int 0, .int 0, .int 0, .null, .null, .null, .null])), (a1, .inl (cA, 111, .inl z0)), (a2, .inl (cA, 111, .inl z0)), (a3, .inl (cA, 111, .inl z0)), (a4, .inl (cA, 8, .inl z0))] H := hP
  have hD : va_D A [(h0, .inr (4, [(.ref a1), (.ref a2), (.ref a3), .int 0, .null, .null, .int 0, .int 0, .int 0, .int 0, .int 0, .int 0, .null, .null, .int 0, .int 0, .int 0, .null, .null, .null, .null])), (a1, .inl (cA, 111, .inl z0)), (a2, .inl (cA, 111, .inl z0)), (a3, .inl (cA, 111, .inl z0)), (a4, .inl (cA, 8, .inl z0))] := hD
  refine va_putF (D := D) (ci := 4) (v := (.ref a4)) (ty := (.array .int)) (C := RX5) (T := TX5) (N := 21) hx hb hts hin0 tyX5 tyX5_ok nmX5 hown hK hP hD hS 0 rfl rfl 4 (by decide) (tb (.fieldLink RX5 19 "TollSillsModel" "found" "[I") (ts_wx_in (q := 3228) (by decide +kernel))) (fun _ h9 => h9) rfl hin rfl (by decide +kernel) rfl rfl (Nat.le_of_ble_eq_true rfl) dX5_init_33 (fun H locs hP hD hS => ?_)
  have hP : va_P D ts_vc [(h0, .inr (4, [(.ref a1), (.ref a2), (.ref a3), .int 0, (.ref a4), .null, .int 0, .int 0, .int 0, .int 0, .int 0, .int 0, .null, .null, .int 0, .int 0, .int 0, .null, .null, .null, .null])), (a1, .inl (cA, 111, .inl z0)), (a2, .inl (cA, 111, .inl z0)), (a3, .inl (cA, 111, .inl z0)), (a4, .inl (cA, 8, .inl z0))] H := hP
  have hD : va_D A [(h0, .inr (4, [(.ref a1), (.ref a2), (.ref a3), .int 0, (.ref a4), .null, .int 0, .int 0, .int 0, .int 0, .int 0, .int 0, .null, .null, .int 0, .int 0, .int 0, .null, .null, .null, .null])), (a1, .inl (cA, 111, .inl z0)), (a2, .inl (cA, 111, .inl z0)), (a3, .inl (cA, 111, .inl z0)), (a4, .inl (cA, 8, .inl z0))] := hD
  refine lv_aload_n hx hb dX5_init_36 rfl (lv_at hl 0 rfl) ?_
  refine lv_bipush (v := 120) hx hb dX5_init_37 (by decide) ?_
  refine n_newi (N := 120) hx hb (tb (.arrayClass .int) (ts_wx_in (q := 1094) (by decide +kernel))) hK rfl hP hD hS hA (by decide) (by decide) (Nat.le_of_ble_eq_true rfl) (Nat.le_of_ble_eq_true rfl) (Nat.le_of_ble_eq_true rfl) dX5_init_39 (fun a5 H hP hD hS => ?_)
  have hP : va_P D ts_vc [(h0, .inr (4, [(.ref a1), (.ref a2), (.ref a3), .int 0, (.ref a4), .null, .int 0, .int 0, .int 0, .int 0, .int 0, .int 0, .null, .null, .int 0, .int 0, .int 0, .null, .null, .null, .null])), (a1, .inl (cA, 111, .inl z0)), (a2, .inl (cA, 111, .inl z0)), (a3, .inl (cA, 111, .inl z0)), (a4, .inl (cA, 8, .inl z0)), (a5, .inl (cA, 120, .inl z0))] H := hP
  have hD : va_D A [(h0, .inr (4, [(.ref a1), (.ref a2), (.ref a3), .int 0, (.ref a4), .null, .int 0, .int 0, .int 0, .int 0, .int 0, .int 0, .null, .null, .int 0, .int 0, .int 0, .null, .null, .null, .null])), (a1, .inl (cA, 111, .inl z0)), (a2, .inl (cA, 111, .inl z0)), (a3, .inl (cA, 111, .inl z0)), (a4, .inl (cA, 8, .inl z0)), (a5, .inl (cA, 120, .inl z0))] := hD
  refine va_putF (D := D) (ci := 4) (v := (.ref a5)) (ty := (.array .int)) (C := RX5) (T := TX5) (N := 21) hx hb hts hin0 tyX5 tyX5_ok nmX5 hown hK hP hD hS 0 rfl rfl 5 (by decide) (tb (.fieldLink RX5 22 "TollSillsModel" "tape" "[I") (ts_wx_in (q := 3229) (by decide +kernel))) (fun _ h9 => h9) rfl hin rfl (by decide +kernel) rfl rfl (Nat.le_of_ble_eq_true rfl) dX5_init_41 (fun H locs hP hD hS => ?_)
  have hP : va_P D ts_vc [(h0, .inr (4, [(.ref a1), (.ref a2), (.ref a3), .int 0, (.ref a4), (.ref a5), .int 0, .int 0, .int 0, .int 0, .int 0, .int 0, .null, .null, .int 0, .int 0, .int 0, .null, .null, .null, .null])), (a1, .inl (cA, 111, .inl z0)), (a2, .inl (cA, 111, .inl z0)), (a3, .inl (cA, 111, .inl z0)), (a4, .inl (cA, 8, .inl z0)), (a5, .inl (cA, 120, .inl z0))] H := hP
  have hD : va_D A [(h0, .inr (4, [(.ref a1), (.ref a2), (.ref a3), .int 0, (.ref a4), (.ref a5), .int 0, .int 0, .int 0, .int 0, .int 0, .int 0, .null, .null, .int 0, .int 0, .int 0, .null, .null, .null, .null])), (a1, .inl (cA, 111, .inl z0)), (a2, .inl (cA, 111, .inl z0)), (a3, .inl (cA, 111, .inl z0)), (a4, .inl (cA, 8, .inl z0)), (a5, .inl (cA, 120, .inl z0))] := hD
  refine lv_aload_n hx hb dX5_init_44 rfl (lv_at hl 0 rfl) ?_
  refine lv_bipush (v := 7) hx hb dX5_init_45 (by decide) ?_
  refine va_newq (C := "java/lang/String") (N' := 7) hx hb hown (tb (.classLink RX5 25 "java/lang/String") (ts_wx_in (q := 3215) (by decide +kernel))) hAO hK hP hD hS hA (by decide) (by decide) (Nat.le_of_ble_eq_true rfl) (Nat.le_of_ble_eq_true rfl) (Nat.le_of_ble_eq_true rfl) dX5_init_47 (fun a6 cB H hKn hP hD hS => ?_)
  have eB : cB = cS := cs_one hKn (i := 1) (j := 2) rfl rfl
  subst eB
  have hP : va_P D ts_vc [(h0, .inr (4, [(.ref a1), (.ref a2), (.ref a3), .int 0, (.ref a4), (.ref a5), .int 0, .int 0, .int 0, .int 0, .int 0, .int 0, .null, .null, .int 0, .int 0, .int 0, .null, .null, .null, .null])), (a1, .inl (cA, 111, .inl z0)), (a2, .inl (cA, 111, .inl z0)), (a3, .inl (cA, 111, .inl z0)), (a4, .inl (cA, 8, .inl z0)), (a5, .inl (cA, 120, .inl z0)), (a6, .inl (cB, 7, .inr (.inr (.inr (.inr (fun _ => none))))))] H := hP
  have hD : va_D A [(h0, .inr (4, [(.ref a1), (.ref a2), (.ref a3), .int 0, (.ref a4), (.ref a5), .int 0, .int 0, .int 0, .int 0, .int 0, .int 0, .null, .null, .int 0, .int 0, .int 0, .null, .null, .null, .null])), (a1, .inl (cA, 111, .inl z0)), (a2, .inl (cA, 111, .inl z0)), (a3, .inl (cA, 111, .inl z0)), (a4, .inl (cA, 8, .inl z0)), (a5, .inl (cA, 120, .inl z0)), (a6, .inl (cB, 7, .inr (.inr (.inr (.inr (fun _ => none))))))] := hD
  refine lv_dup hx hb dX5_init_50 rfl ?_
  refine lv_iconst (v := 0) hx hb dX5_init_51 (by decide) ?_
  refine va_ldcS hx hb hown hR0 dX5_init_52 ?_
  refine va_astqM (E := "java/lang/String") hx hb hK hP hD hS 6 1 rfl rfl (O_any hO0 hS) (i := 0) (show ¬ ((0 : Int32) < 0 ∨ 7 ≤ (0 : Int32).toNatClampNeg) by decide) dX5_init_54 (fun H locs hP hD hS => ?_)
  have hP : va_P D ts_vc [(h0, .inr (4, [(.ref a1), (.ref a2), (.ref a3), .int 0, (.ref a4), (.ref a5), .int 0, .int 0, .int 0, .int 0, .int 0, .int 0, .null, .null, .int 0, .int 0, .int 0, .null, .null, .null, .null])), (a1, .inl (cA, 111, .inl z0)), (a2, .inl (cA, 111, .inl z0)), (a3, .inl (cA, 111, .inl z0)), (a4, .inl (cA, 8, .inl z0)), (a5, .inl (cA, 120, .inl z0)), (a6, .inl (cB, 7, .inr (.inr (.inr (.inr (va_up (fun _ => none) 0 (some (aS 0))))))))] H := hP
  have hD : va_D A [(h0, .inr (4, [(.ref a1), (.ref a2), (.ref a3), .int 0, (.ref a4), (.ref a5), .int 0, .int 0, .int 0, .int 0, .int 0, .int 0, .null, .null, .int 0, .int 0, .int 0, .null, .null, .null, .null])), (a1, .inl (cA, 111, .inl z0)), (a2, .inl (cA, 111, .inl z0)), (a3, .inl (cA, 111, .inl z0)), (a4, .inl (cA, 8, .inl z0)), (a5, .inl (cA, 120, .inl z0)), (a6, .inl (cB, 7, .inr (.inr (.inr (.inr (va_up (fun _ => none) 0 (some (aS 0))))))))] := hD
  refine lv_dup hx hb dX5_init_55 rfl ?_
  refine lv_iconst (v := 1) hx hb dX5_init_56 (by decide) ?_
  refine va_ldcS hx hb hown hR1 dX5_init_57 ?_
  refine va_astqM (E := "java/lang/String") hx hb hK hP hD hS 6 1 rfl rfl (O_any hO1 hS) (i := 1) (show ¬ ((1 : Int32) < 0 ∨ 7 ≤ (1 : Int32).toNatClampNeg) by decide) dX5_init_59 (fun H locs hP hD hS => ?_)
  have hP : va_P D ts_vc [(h0, .inr (4, [(.ref a1), (.ref a2), (.ref a3), .int 0, (.ref a4), (.ref a5), .int 0, .int 0, .int 0, .int 0, .int 0, .int 0, .null, .null, .int 0, .int 0, .int 0, .null, .null, .null, .null])), (a1, .inl (cA, 111, .inl z0)), (a2, .inl (cA, 111, .inl z0)), (a3, .inl (cA, 111, .inl z0)), (a4, .inl (cA, 8, .inl z0)), (a5, .inl (cA, 120, .inl z0)), (a6, .inl (cB, 7, .inr (.inr (.inr (.inr (va_up (va_up (fun _ => none) 0 (some (aS 0))) 1 (some (aS 1))))))))] H := hP
  have hD : va_D A [(h0, .inr (4, [(.ref a1), (.ref a2), (.ref a3), .int 0, (.ref a4), (.ref a5), .int 0, .int 0, .int 0, .int 0, .int 0, .int 0, .null, .null, .int 0, .int 0, .int 0, .null, .null, .null, .null])), (a1, .inl (cA, 111, .inl z0)), (a2, .inl (cA, 111, .inl z0)), (a3, .inl (cA, 111, .inl z0)), (a4, .inl (cA, 8, .inl z0)), (a5, .inl (cA, 120, .inl z0)), (a6, .inl (cB, 7, .inr (.inr (.inr (.inr (va_up (va_up (fun _ => none) 0 (some (aS 0))) 1 (some (aS 1))))))))] := hD
  refine lv_dup hx hb dX5_init_60 rfl ?_
  refine lv_iconst (v := 2) hx hb dX5_init_61 (by decide) ?_
  refine va_ldcS hx hb hown hR2 dX5_init_62 ?_
  refine va_astqM (E := "java/lang/String") hx hb hK hP hD hS 6 1 rfl rfl (O_any hO2 hS) (i := 2) (show ¬ ((2 : Int32) < 0 ∨ 7 ≤ (2 : Int32).toNatClampNeg) by decide) dX5_init_64 (fun H locs hP hD hS => ?_)
  have hP : va_P D ts_vc [(h0, .inr (4, [(.ref a1), (.ref a2), (.ref a3), .int 0, (.ref a4), (.ref a5), .int 0, .int 0, .int 0, .int 0, .int 0, .int 0, .null, .null, .int 0, .int 0, .int 0, .null, .null, .null, .null])), (a1, .inl (cA, 111, .inl z0)), (a2, .inl (cA, 111, .inl z0)), (a3, .inl (cA, 111, .inl z0)), (a4, .inl (cA, 8, .inl z0)), (a5, .inl (cA, 120, .inl z0)), (a6, .inl (cB, 7, .inr (.inr (.inr (.inr (va_up (va_up (va_up (fun _ => none) 0 (some (aS 0))) 1 (some (aS 1))) 2 (some (aS 2))))))))] H := hP
  have hD : va_D A [(h0, .inr (4, [(.ref a1), (.ref a2), (.ref a3), .int 0, (.ref a4), (.ref a5), .int 0, .int 0, .int 0, .int 0, .int 0, .int 0, .null, .null, .int 0, .int 0, .int 0, .null, .null, .null, .null])), (a1, .inl (cA, 111, .inl z0)), (a2, .inl (cA, 111, .inl z0)), (a3, .inl (cA, 111, .inl z0)), (a4, .inl (cA, 8, .inl z0)), (a5, .inl (cA, 120, .inl z0)), (a6, .inl (cB, 7, .inr (.inr (.inr (.inr (va_up (va_up (va_up (fun _ => none) 0 (some (aS 0))) 1 (some (aS 1))) 2 (some (aS 2))))))))] := hD
  refine lv_dup hx hb dX5_init_65 rfl ?_
  refine lv_iconst (v := 3) hx hb dX5_init_66 (by decide) ?_
  refine va_ldcS hx hb hown hR3 dX5_init_67 ?_
  refine va_astqM (E := "java/lang/String") hx hb hK hP hD hS 6 1 rfl rfl (O_any hO3 hS) (i := 3) (show ¬ ((3 : Int32) < 0 ∨ 7 ≤ (3 : Int32).toNatClampNeg) by decide) dX5_init_69 (fun H locs hP hD hS => ?_)
  have hP : va_P D ts_vc [(h0, .inr (4, [(.ref a1), (.ref a2), (.ref a3), .int 0, (.ref a4), (.ref a5), .int 0, .int 0, .int 0, .int 0, .int 0, .int 0, .null, .null, .int 0, .int 0, .int 0, .null, .null, .null, .null])), (a1, .inl (cA, 111, .inl z0)), (a2, .inl (cA, 111, .inl z0)), (a3, .inl (cA, 111, .inl z0)), (a4, .inl (cA, 8, .inl z0)), (a5, .inl (cA, 120, .inl z0)), (a6, .inl (cB, 7, .inr (.inr (.inr (.inr (va_up (va_up (va_up (va_up (fun _ => none) 0 (some (aS 0))) 1 (some (aS 1))) 2 (some (aS 2))) 3 (some (aS 3))))))))] H := hP
  have hD : va_D A [(h0, .inr (4, [(.ref a1), (.ref a2), (.ref a3), .int 0, (.ref a4), (.ref a5), .int 0, .int 0, .int 0, .int 0, .int 0, .int 0, .null, .null, .int 0, .int 0, .int 0, .null, .null, .null, .null])), (a1, .inl (cA, 111, .inl z0)), (a2, .inl (cA, 111, .inl z0)), (a3, .inl (cA, 111, .inl z0)), (a4, .inl (cA, 8, .inl z0)), (a5, .inl (cA, 120, .inl z0)), (a6, .inl (cB, 7, .inr (.inr (.inr (.inr (va_up (va_up (va_up (va_up (fun _ => none) 0 (some (aS 0))) 1 (some (aS 1))) 2 (some (aS 2))) 3 (some (aS 3))))))))] := hD
  refine lv_dup hx hb dX5_init_70 rfl ?_
  refine lv_iconst (v := 4) hx hb dX5_init_71 (by decide) ?_
  refine va_ldcS hx hb hown hR4 dX5_init_72 ?_
  refine va_astqM (E := "java/lang/String") hx hb hK hP hD hS 6 1 rfl rfl (O_any hO4 hS) (i := 4) (show ¬ ((4 : Int32) < 0 ∨ 7 ≤ (4 : Int32).toNatClampNeg) by decide) dX5_init_74 (fun H locs hP hD hS => ?_)
  have hP : va_P D ts_vc [(h0, .inr (4, [(.ref a1), (.ref a2), (.ref a3), .int 0, (.ref a4), (.ref a5), .int 0, .int 0, .int 0, .int 0, .int 0, .int 0, .null, .null, .int 0, .int 0, .int 0, .null, .null, .null, .null])), (a1, .inl (cA, 111, .inl z0)), (a2, .inl (cA, 111, .inl z0)), (a3, .inl (cA, 111, .inl z0)), (a4, .inl (cA, 8, .inl z0)), (a5, .inl (cA, 120, .inl z0)), (a6, .inl (cB, 7, .inr (.inr (.inr (.inr (va_up (va_up (va_up (va_up (va_up (fun _ => none) 0 (some (aS 0))) 1 (some (aS 1))) 2 (some (aS 2))) 3 (some (aS 3))) 4 (some (aS 4))))))))] H := hP
  have hD : va_D A [(h0, .inr (4, [(.ref a1), (.ref a2), (.ref a3), .int 0, (.ref a4), (.ref a5), .int 0, .int 0, .int 0, .int 0, .int 0, .int 0, .null, .null, .int 0, .int 0, .int 0, .null, .null, .null, .null])), (a1, .inl (cA, 111, .inl z0)), (a2, .inl (cA, 111, .inl z0)), (a3, .inl (cA, 111, .inl z0)), (a4, .inl (cA, 8, .inl z0)), (a5, .inl (cA, 120, .inl z0)), (a6, .inl (cB, 7, .inr (.inr (.inr (.inr (va_up (va_up (va_up (va_up (va_up (fun _ => none) 0 (some (aS 0))) 1 (some (aS 1))) 2 (some (aS 2))) 3 (some (aS 3))) 4 (some (aS 4))))))))] := hD
  refine lv_dup hx hb dX5_init_75 rfl ?_
  refine lv_iconst (v := 5) hx hb dX5_init_76 (by decide) ?_
  refine va_ldcS hx hb hown hR5 dX5_init_77 ?_
  refine va_astqM (E := "java/lang/String") hx hb hK hP hD hS 6 1 rfl rfl (O_any hO5 hS) (i := 5) (show ¬ ((5 : Int32) < 0 ∨ 7 ≤ (5 : Int32).toNatClampNeg) by decide) dX5_init_79 (fun H locs hP hD hS => ?_)
  have hP : va_P D ts_vc [(h0, .inr (4, [(.ref a1), (.ref a2), (.ref a3), .int 0, (.ref a4), (.ref a5), .int 0, .int 0, .int 0, .int 0, .int 0, .int 0, .null, .null, .int 0, .int 0, .int 0, .null, .null, .null, .null])), (a1, .inl (cA, 111, .inl z0)), (a2, .inl (cA, 111, .inl z0)), (a3, .inl (cA, 111, .inl z0)), (a4, .inl (cA, 8, .inl z0)), (a5, .inl (cA, 120, .inl z0)), (a6, .inl (cB, 7, .inr (.inr (.inr (.inr (va_up (va_up (va_up (va_up (va_up (va_up (fun _ => none) 0 (some (aS 0))) 1 (some (aS 1))) 2 (some (aS 2))) 3 (some (aS 3))) 4 (some (aS 4))) 5 (some (aS 5))))))))] H := hP
  have hD : va_D A [(h0, .inr (4, [(.ref a1), (.ref a2), (.ref a3), .int 0, (.ref a4), (.ref a5), .int 0, .int 0, .int 0, .int 0, .int 0, .int 0, .null, .null, .int 0, .int 0, .int 0, .null, .null, .null, .null])), (a1, .inl (cA, 111, .inl z0)), (a2, .inl (cA, 111, .inl z0)), (a3, .inl (cA, 111, .inl z0)), (a4, .inl (cA, 8, .inl z0)), (a5, .inl (cA, 120, .inl z0)), (a6, .inl (cB, 7, .inr (.inr (.inr (.inr (va_up (va_up (va_up (va_up (va_up (va_up (fun _ => none) 0 (some (aS 0))) 1 (some (aS 1))) 2 (some (aS 2))) 3 (some (aS 3))) 4 (some (aS 4))) 5 (some (aS 5))))))))] := hD
  refine lv_dup hx hb dX5_init_80 rfl ?_
  refine lv_bipush (v := 6) hx hb dX5_init_81 (by decide) ?_
  refine va_ldcS hx hb hown hR6 dX5_init_83 ?_
  refine va_astqM (E := "java/lang/String") hx hb hK hP hD hS 6 1 rfl rfl (O_any hO6 hS) (i := 6) (show ¬ ((6 : Int32) < 0 ∨ 7 ≤ (6 : Int32).toNatClampNeg) by decide) dX5_init_85 (fun H locs hP hD hS => ?_)
  have hP : va_P D ts_vc [(h0, .inr (4, [(.ref a1), (.ref a2), (.ref a3), .int 0, (.ref a4), (.ref a5), .int 0, .int 0, .int 0, .int 0, .int 0, .int 0, .null, .null, .int 0, .int 0, .int 0, .null, .null, .null, .null])), (a1, .inl (cA, 111, .inl z0)), (a2, .inl (cA, 111, .inl z0)), (a3, .inl (cA, 111, .inl z0)), (a4, .inl (cA, 8, .inl z0)), (a5, .inl (cA, 120, .inl z0)), (a6, .inl (cB, 7, .inr (.inr (.inr (.inr (va_up (va_up (va_up (va_up (va_up (va_up (va_up (fun _ => none) 0 (some (aS 0))) 1 (some (aS 1))) 2 (some (aS 2))) 3 (some (aS 3))) 4 (some (aS 4))) 5 (some (aS 5))) 6 (some (aS 6))))))))] H := hP
  have hD : va_D A [(h0, .inr (4, [(.ref a1), (.ref a2), (.ref a3), .int 0, (.ref a4), (.ref a5), .int 0, .int 0, .int 0, .int 0, .int 0, .int 0, .null, .null, .int 0, .int 0, .int 0, .null, .null, .null, .null])), (a1, .inl (cA, 111, .inl z0)), (a2, .inl (cA, 111, .inl z0)), (a3, .inl (cA, 111, .inl z0)), (a4, .inl (cA, 8, .inl z0)), (a5, .inl (cA, 120, .inl z0)), (a6, .inl (cB, 7, .inr (.inr (.inr (.inr (va_up (va_up (va_up (va_up (va_up (va_up (va_up (fun _ => none) 0 (some (aS 0))) 1 (some (aS 1))) 2 (some (aS 2))) 3 (some (aS 3))) 4 (some (aS 4))) 5 (some (aS 5))) 6 (some (aS 6))))))))] := hD
  have hP := P_q (g := fun i => some (aS i)) hP (q0 := 6) rfl (fun j hj => by rcases (show j = 0 ∨ j = 1 ∨ j = 2 ∨ j = 3 ∨ j = 4 ∨ j = 5 ∨ j = 6 by omega) with rfl | rfl | rfl | rfl | rfl | rfl | rfl <;> rfl)
  have hD := hD.set (p := 6) (e := .inl (cB, 7, .inr (.inr (.inr (.inr (fun i => some (aS i))))))) rfl
  have hP : va_P D ts_vc [(h0, .inr (4, [(.ref a1), (.ref a2), (.ref a3), .int 0, (.ref a4), (.ref a5), .int 0, .int 0, .int 0, .int 0, .int 0, .int 0, .null, .null, .int 0, .int 0, .int 0, .null, .null, .null, .null])), (a1, .inl (cA, 111, .inl z0)), (a2, .inl (cA, 111, .inl z0)), (a3, .inl (cA, 111, .inl z0)), (a4, .inl (cA, 8, .inl z0)), (a5, .inl (cA, 120, .inl z0)), (a6, .inl (cB, 7, .inr (.inr (.inr (.inr (fun i => some (aS i)))))))] H := hP
  have hD : va_D A [(h0, .inr (4, [(.ref a1), (.ref a2), (.ref a3), .int 0, (.ref a4), (.ref a5), .int 0, .int 0, .int 0, .int 0, .int 0, .int 0, .null, .null, .int 0, .int 0, .int 0, .null, .null, .null, .null])), (a1, .inl (cA, 111, .inl z0)), (a2, .inl (cA, 111, .inl z0)), (a3, .inl (cA, 111, .inl z0)), (a4, .inl (cA, 8, .inl z0)), (a5, .inl (cA, 120, .inl z0)), (a6, .inl (cB, 7, .inr (.inr (.inr (.inr (fun i => some (aS i)))))))] := hD
  refine va_putF (D := D) (ci := 4) (v := (.ref a6)) (ty := (.array (.object "java/lang/String"))) (C := RX5) (T := TX5) (N := 21) hx hb hts hin0 tyX5 tyX5_ok nmX5 hown hK hP hD hS 0 rfl rfl 12 (by decide) (tb (.fieldLink RX5 41 "TollSillsModel" "kindNames" "[Ljava/lang/String;") (ts_wx_in (q := 3236) (by decide +kernel))) (fun _ h9 => h9) rfl hin rfl (by decide +kernel) rfl rfl (Nat.le_of_ble_eq_true rfl) dX5_init_86 (fun H locs hP hD hS => ?_)
  have hP : va_P D ts_vc [(h0, .inr (4, [(.ref a1), (.ref a2), (.ref a3), .int 0, (.ref a4), (.ref a5), .int 0, .int 0, .int 0, .int 0, .int 0, .int 0, (.ref a6), .null, .int 0, .int 0, .int 0, .null, .null, .null, .null])), (a1, .inl (cA, 111, .inl z0)), (a2, .inl (cA, 111, .inl z0)), (a3, .inl (cA, 111, .inl z0)), (a4, .inl (cA, 8, .inl z0)), (a5, .inl (cA, 120, .inl z0)), (a6, .inl (cB, 7, .inr (.inr (.inr (.inr (fun i => some (aS i)))))))] H := hP
  have hD : va_D A [(h0, .inr (4, [(.ref a1), (.ref a2), (.ref a3), .int 0, (.ref a4), (.ref a5), .int 0, .int 0, .int 0, .int 0, .int 0, .int 0, (.ref a6), .null, .int 0, .int 0, .int 0, .null, .null, .null, .null])), (a1, .inl (cA, 111, .inl z0)), (a2, .inl (cA, 111, .inl z0)), (a3, .inl (cA, 111, .inl z0)), (a4, .inl (cA, 8, .inl z0)), (a5, .inl (cA, 120, .inl z0)), (a6, .inl (cB, 7, .inr (.inr (.inr (.inr (fun i => some (aS i)))))))] := hD
  refine lv_aload_n hx hb dX5_init_89 rfl (lv_at hl 0 rfl) ?_
  refine lv_sipush (v := 960) hx hb dX5_init_90 (by decide) ?_
  refine n_newi (N := 960) hx hb (tb (.arrayClass .int) (ts_wx_in (q := 1094) (by decide +kernel))) hK rfl hP hD hS hA (by decide) (by decide) (Nat.le_of_ble_eq_true rfl) (Nat.le_of_ble_eq_true rfl) (Nat.le_of_ble_eq_true rfl) dX5_init_93 (fun a7 H hP hD hS => ?_)
  have hP : va_P D ts_vc [(h0, .inr (4, [(.ref a1), (.ref a2), (.ref a3), .int 0, (.ref a4), (.ref a5), .int 0, .int 0, .int 0, .int 0, .int 0, .int 0, (.ref a6), .null, .int 0, .int 0, .int 0, .null, .null, .null, .null])), (a1, .inl (cA, 111, .inl z0)), (a2, .inl (cA, 111, .inl z0)), (a3, .inl (cA, 111, .inl z0)), (a4, .inl (cA, 8, .inl z0)), (a5, .inl (cA, 120, .inl z0)), (a6, .inl (cB, 7, .inr (.inr (.inr (.inr (fun i => some (aS i))))))), (a7, .inl (cA, 960, .inl z0))] H := hP
  have hD : va_D A [(h0, .inr (4, [(.ref a1), (.ref a2), (.ref a3), .int 0, (.ref a4), (.ref a5), .int 0, .int 0, .int 0, .int 0, .int 0, .int 0, (.ref a6), .null, .int 0, .int 0, .int 0, .null, .null, .null, .null])), (a1, .inl (cA, 111, .inl z0)), (a2, .inl (cA, 111, .inl z0)), (a3, .inl (cA, 111, .inl z0)), (a4, .inl (cA, 8, .inl z0)), (a5, .inl (cA, 120, .inl z0)), (a6, .inl (cB, 7, .inr (.inr (.inr (.inr (fun i => some (aS i))))))), (a7, .inl (cA, 960, .inl z0))] := hD
  refine va_putF (D := D) (ci := 4) (v := (.ref a7)) (ty := (.array .int)) (C := RX5) (T := TX5) (N := 21) hx hb hts hin0 tyX5 tyX5_ok nmX5 hown hK hP hD hS 0 rfl rfl 13 (by decide) (tb (.fieldLink RX5 45 "TollSillsModel" "items" "[I") (ts_wx_in (q := 3237) (by decide +kernel))) (fun _ h9 => h9) rfl hin rfl (by decide +kernel) rfl rfl (Nat.le_of_ble_eq_true rfl) dX5_init_95 (fun H locs hP hD hS => ?_)
  have hP : va_P D ts_vc [(h0, .inr (4, [(.ref a1), (.ref a2), (.ref a3), .int 0, (.ref a4), (.ref a5), .int 0, .int 0, .int 0, .int 0, .int 0, .int 0, (.ref a6), (.ref a7), .int 0, .int 0, .int 0, .null, .null, .null, .null])), (a1, .inl (cA, 111, .inl z0)), (a2, .inl (cA, 111, .inl z0)), (a3, .inl (cA, 111, .inl z0)), (a4, .inl (cA, 8, .inl z0)), (a5, .inl (cA, 120, .inl z0)), (a6, .inl (cB, 7, .inr (.inr (.inr (.inr (fun i => some (aS i))))))), (a7, .inl (cA, 960, .inl z0))] H := hP
  have hD : va_D A [(h0, .inr (4, [(.ref a1), (.ref a2), (.ref a3), .int 0, (.ref a4), (.ref a5), .int 0, .int 0, .int 0, .int 0, .int 0, .int 0, (.ref a6), (.ref a7), .int 0, .int 0, .int 0, .null, .null, .null, .null])), (a1, .inl (cA, 111, .inl z0)), (a2, .inl (cA, 111, .inl z0)), (a3, .inl (cA, 111, .inl z0)), (a4, .inl (cA, 8, .inl z0)), (a5, .inl (cA, 120, .inl z0)), (a6, .inl (cB, 7, .inr (.inr (.inr (.inr (fun i => some (aS i))))))), (a7, .inl (cA, 960, .inl z0))] := hD
  refine lv_aload_n hx hb dX5_init_98 rfl (lv_at hl 0 rfl) ?_
  refine lv_iconst (v := 4) hx hb dX5_init_99 (by decide) ?_
  refine n_newi (N := 4) hx hb (tb (.arrayClass .int) (ts_wx_in (q := 1094) (by decide +kernel))) hK rfl hP hD hS hA (by decide) (by decide) (Nat.le_of_ble_eq_true rfl) (Nat.le_of_ble_eq_true rfl) (Nat.le_of_ble_eq_true rfl) dX5_init_100 (fun a8 H hP hD hS => ?_)
  have hP : va_P D ts_vc [(h0, .inr (4, [(.ref a1), (.ref a2), (.ref a3), .int 0, (.ref a4), (.ref a5), .int 0, .int 0, .int 0, .int 0, .int 0, .int 0, (.ref a6), (.ref a7), .int 0, .int 0, .int 0, .null, .null, .null, .null])), (a1, .inl (cA, 111, .inl z0)), (a2, .inl (cA, 111, .inl z0)), (a3, .inl (cA, 111, .inl z0)), (a4, .inl (cA, 8, .inl z0)), (a5, .inl (cA, 120, .inl z0)), (a6, .inl (cB, 7, .inr (.inr (.inr (.inr (fun i => some (aS i))))))), (a7, .inl (cA, 960, .inl z0)), (a8, .inl (cA, 4, .inl z0))] H := hP
  have hD : va_D A [(h0, .inr (4, [(.ref a1), (.ref a2), (.ref a3), .int 0, (.ref a4), (.ref a5), .int 0, .int 0, .int 0, .int 0, .int 0, .int 0, (.ref a6), (.ref a7), .int 0, .int 0, .int 0, .null, .null, .null, .null])), (a1, .inl (cA, 111, .inl z0)), (a2, .inl (cA, 111, .inl z0)), (a3, .inl (cA, 111, .inl z0)), (a4, .inl (cA, 8, .inl z0)), (a5, .inl (cA, 120, .inl z0)), (a6, .inl (cB, 7, .inr (.inr (.inr (.inr (fun i => some (aS i))))))), (a7, .inl (cA, 960, .inl z0)), (a8, .inl (cA, 4, .inl z0))] := hD
  refine va_putF (D := D) (ci := 4) (v := (.ref a8)) (ty := (.array .int)) (C := RX5) (T := TX5) (N := 21) hx hb hts hin0 tyX5 tyX5_ok nmX5 hown hK hP hD hS 0 rfl rfl 17 (by decide) (tb (.fieldLink RX5 48 "TollSillsModel" "widths" "[I") (ts_wx_in (q := 4001) (by decide +kernel))) (fun _ h9 => h9) rfl hin rfl (by decide +kernel) rfl rfl (Nat.le_of_ble_eq_true rfl) dX5_init_102 (fun H locs hP hD hS => ?_)
  have hP : va_P D ts_vc [(h0, .inr (4, [(.ref a1), (.ref a2), (.ref a3), .int 0, (.ref a4), (.ref a5), .int 0, .int 0, .int 0, .int 0, .int 0, .int 0, (.ref a6), (.ref a7), .int 0, .int 0, .int 0, (.ref a8), .null, .null, .null])), (a1, .inl (cA, 111, .inl z0)), (a2, .inl (cA, 111, .inl z0)), (a3, .inl (cA, 111, .inl z0)), (a4, .inl (cA, 8, .inl z0)), (a5, .inl (cA, 120, .inl z0)), (a6, .inl (cB, 7, .inr (.inr (.inr (.inr (fun i => some (aS i))))))), (a7, .inl (cA, 960, .inl z0)), (a8, .inl (cA, 4, .inl z0))] H := hP
  have hD : va_D A [(h0, .inr (4, [(.ref a1), (.ref a2), (.ref a3), .int 0, (.ref a4), (.ref a5), .int 0, .int 0, .int 0, .int 0, .int 0, .int 0, (.ref a6), (.ref a7), .int 0, .int 0, .int 0, (.ref a8), .null, .null, .null])), (a1, .inl (cA, 111, .inl z0)), (a2, .inl (cA, 111, .inl z0)), (a3, .inl (cA, 111, .inl z0)), (a4, .inl (cA, 8, .inl z0)), (a5, .inl (cA, 120, .inl z0)), (a6, .inl (cB, 7, .inr (.inr (.inr (.inr (fun i => some (aS i))))))), (a7, .inl (cA, 960, .inl z0)), (a8, .inl (cA, 4, .inl z0))] := hD
  refine lv_aload_n hx hb dX5_init_105 rfl (lv_at hl 0 rfl) ?_
  refine lv_iconst (v := 4) hx hb dX5_init_106 (by decide) ?_
  refine n_newi (N := 4) hx hb (tb (.arrayClass .int) (ts_wx_in (q := 1094) (by decide +kernel))) hK rfl hP hD hS hA (by decide) (by decide) (Nat.le_of_ble_eq_true rfl) (Nat.le_of_ble_eq_true rfl) (Nat.le_of_ble_eq_true rfl) dX5_init_107 (fun a9 H hP hD hS => ?_)
  have hP : va_P D ts_vc [(h0, .inr (4, [(.ref a1), (.ref a2), (.ref a3), .int 0, (.ref a4), (.ref a5), .int 0, .int 0, .int 0, .int 0, .int 0, .int 0, (.ref a6), (.ref a7), .int 0, .int 0, .int 0, (.ref a8), .null, .null, .null])), (a1, .inl (cA, 111, .inl z0)), (a2, .inl (cA, 111, .inl z0)), (a3, .inl (cA, 111, .inl z0)), (a4, .inl (cA, 8, .inl z0)), (a5, .inl (cA, 120, .inl z0)), (a6, .inl (cB, 7, .inr (.inr (.inr (.inr (fun i => some (aS i))))))), (a7, .inl (cA, 960, .inl z0)), (a8, .inl (cA, 4, .inl z0)), (a9, .inl (cA, 4, .inl z0))] H := hP
  have hD : va_D A [(h0, .inr (4, [(.ref a1), (.ref a2), (.ref a3), .int 0, (.ref a4), (.ref a5), .int 0, .int 0, .int 0, .int 0, .int 0, .int 0, (.ref a6), (.ref a7), .int 0, .int 0, .int 0, (.ref a8), .null, .null, .null])), (a1, .inl (cA, 111, .inl z0)), (a2, .inl (cA, 111, .inl z0)), (a3, .inl (cA, 111, .inl z0)), (a4, .inl (cA, 8, .inl z0)), (a5, .inl (cA, 120, .inl z0)), (a6, .inl (cB, 7, .inr (.inr (.inr (.inr (fun i => some (aS i))))))), (a7, .inl (cA, 960, .inl z0)), (a8, .inl (cA, 4, .inl z0)), (a9, .inl (cA, 4, .inl z0))] := hD
  refine va_putF (D := D) (ci := 4) (v := (.ref a9)) (ty := (.array .int)) (C := RX5) (T := TX5) (N := 21) hx hb hts hin0 tyX5 tyX5_ok nmX5 hown hK hP hD hS 0 rfl rfl 18 (by decide) (tb (.fieldLink RX5 51 "TollSillsModel" "sizes" "[I") (ts_wx_in (q := 4002) (by decide +kernel))) (fun _ h9 => h9) rfl hin rfl (by decide +kernel) rfl rfl (Nat.le_of_ble_eq_true rfl) dX5_init_109 (fun H locs hP hD hS => ?_)
  have hP : va_P D ts_vc [(h0, .inr (4, [(.ref a1), (.ref a2), (.ref a3), .int 0, (.ref a4), (.ref a5), .int 0, .int 0, .int 0, .int 0, .int 0, .int 0, (.ref a6), (.ref a7), .int 0, .int 0, .int 0, (.ref a8), (.ref a9), .null, .null])), (a1, .inl (cA, 111, .inl z0)), (a2, .inl (cA, 111, .inl z0)), (a3, .inl (cA, 111, .inl z0)), (a4, .inl (cA, 8, .inl z0)), (a5, .inl (cA, 120, .inl z0)), (a6, .inl (cB, 7, .inr (.inr (.inr (.inr (fun i => some (aS i))))))), (a7, .inl (cA, 960, .inl z0)), (a8, .inl (cA, 4, .inl z0)), (a9, .inl (cA, 4, .inl z0))] H := hP
  have hD : va_D A [(h0, .inr (4, [(.ref a1), (.ref a2), (.ref a3), .int 0, (.ref a4), (.ref a5), .int 0, .int 0, .int 0, .int 0, .int 0, .int 0, (.ref a6), (.ref a7), .int 0, .int 0, .int 0, (.ref a8), (.ref a9), .null, .null])), (a1, .inl (cA, 111, .inl z0)), (a2, .inl (cA, 111, .inl z0)), (a3, .inl (cA, 111, .inl z0)), (a4, .inl (cA, 8, .inl z0)), (a5, .inl (cA, 120, .inl z0)), (a6, .inl (cB, 7, .inr (.inr (.inr (.inr (fun i => some (aS i))))))), (a7, .inl (cA, 960, .inl z0)), (a8, .inl (cA, 4, .inl z0)), (a9, .inl (cA, 4, .inl z0))] := hD
  refine lv_aload_n hx hb dX5_init_112 rfl (lv_at hl 0 rfl) ?_
  refine lv_sipush (v := 160) hx hb dX5_init_113 (by decide) ?_
  refine n_newi (N := 160) hx hb (tb (.arrayClass .int) (ts_wx_in (q := 1094) (by decide +kernel))) hK rfl hP hD hS hA (by decide) (by decide) (Nat.le_of_ble_eq_true rfl) (Nat.le_of_ble_eq_true rfl) (Nat.le_of_ble_eq_true rfl) dX5_init_116 (fun a10 H hP hD hS => ?_)
  have hP : va_P D ts_vc [(h0, .inr (4, [(.ref a1), (.ref a2), (.ref a3), .int 0, (.ref a4), (.ref a5), .int 0, .int 0, .int 0, .int 0, .int 0, .int 0, (.ref a6), (.ref a7), .int 0, .int 0, .int 0, (.ref a8), (.ref a9), .null, .null])), (a1, .inl (cA, 111, .inl z0)), (a2, .inl (cA, 111, .inl z0)), (a3, .inl (cA, 111, .inl z0)), (a4, .inl (cA, 8, .inl z0)), (a5, .inl (cA, 120, .inl z0)), (a6, .inl (cB, 7, .inr (.inr (.inr (.inr (fun i => some (aS i))))))), (a7, .inl (cA, 960, .inl z0)), (a8, .inl (cA, 4, .inl z0)), (a9, .inl (cA, 4, .inl z0)), (a10, .inl (cA, 160, .inl z0))] H := hP
  have hD : va_D A [(h0, .inr (4, [(.ref a1), (.ref a2), (.ref a3), .int 0, (.ref a4), (.ref a5), .int 0, .int 0, .int 0, .int 0, .int 0, .int 0, (.ref a6), (.ref a7), .int 0, .int 0, .int 0, (.ref a8), (.ref a9), .null, .null])), (a1, .inl (cA, 111, .inl z0)), (a2, .inl (cA, 111, .inl z0)), (a3, .inl (cA, 111, .inl z0)), (a4, .inl (cA, 8, .inl z0)), (a5, .inl (cA, 120, .inl z0)), (a6, .inl (cB, 7, .inr (.inr (.inr (.inr (fun i => some (aS i))))))), (a7, .inl (cA, 960, .inl z0)), (a8, .inl (cA, 4, .inl z0)), (a9, .inl (cA, 4, .inl z0)), (a10, .inl (cA, 160, .inl z0))] := hD
  refine va_putF (D := D) (ci := 4) (v := (.ref a10)) (ty := (.array .int)) (C := RX5) (T := TX5) (N := 21) hx hb hts hin0 tyX5 tyX5_ok nmX5 hown hK hP hD hS 0 rfl rfl 19 (by decide) (tb (.fieldLink RX5 54 "TollSillsModel" "numbers" "[I") (ts_wx_in (q := 4003) (by decide +kernel))) (fun _ h9 => h9) rfl hin rfl (by decide +kernel) rfl rfl (Nat.le_of_ble_eq_true rfl) dX5_init_118 (fun H locs hP hD hS => ?_)
  have hP : va_P D ts_vc [(h0, .inr (4, [(.ref a1), (.ref a2), (.ref a3), .int 0, (.ref a4), (.ref a5), .int 0, .int 0, .int 0, .int 0, .int 0, .int 0, (.ref a6), (.ref a7), .int 0, .int 0, .int 0, (.ref a8), (.ref a9), (.ref a10), .null])), (a1, .inl (cA, 111, .inl z0)), (a2, .inl (cA, 111, .inl z0)), (a3, .inl (cA, 111, .inl z0)), (a4, .inl (cA, 8, .inl z0)), (a5, .inl (cA, 120, .inl z0)), (a6, .inl (cB, 7, .inr (.inr (.inr (.inr (fun i => some (aS i))))))), (a7, .inl (cA, 960, .inl z0)), (a8, .inl (cA, 4, .inl z0)), (a9, .inl (cA, 4, .inl z0)), (a10, .inl (cA, 160, .inl z0))] H := hP
  have hD : va_D A [(h0, .inr (4, [(.ref a1), (.ref a2), (.ref a3), .int 0, (.ref a4), (.ref a5), .int 0, .int 0, .int 0, .int 0, .int 0, .int 0, (.ref a6), (.ref a7), .int 0, .int 0, .int 0, (.ref a8), (.ref a9), (.ref a10), .null])), (a1, .inl (cA, 111, .inl z0)), (a2, .inl (cA, 111, .inl z0)), (a3, .inl (cA, 111, .inl z0)), (a4, .inl (cA, 8, .inl z0)), (a5, .inl (cA, 120, .inl z0)), (a6, .inl (cB, 7, .inr (.inr (.inr (.inr (fun i => some (aS i))))))), (a7, .inl (cA, 960, .inl z0)), (a8, .inl (cA, 4, .inl z0)), (a9, .inl (cA, 4, .inl z0)), (a10, .inl (cA, 160, .inl z0))] := hD
  refine lv_aload_n hx hb dX5_init_121 rfl (lv_at hl 0 rfl) ?_
  refine lv_bipush (v := 40) hx hb dX5_init_122 (by decide) ?_
  refine n_newi (N := 40) hx hb (tb (.arrayClass .int) (ts_wx_in (q := 1094) (by decide +kernel))) hK rfl hP hD hS hA (by decide) (by decide) (Nat.le_of_ble_eq_true rfl) (Nat.le_of_ble_eq_true rfl) (Nat.le_of_ble_eq_true rfl) dX5_init_124 (fun a11 H hP hD hS => ?_)
  have hP : va_P D ts_vc [(h0, .inr (4, [(.ref a1), (.ref a2), (.ref a3), .int 0, (.ref a4), (.ref a5), .int 0, .int 0, .int 0, .int 0, .int 0, .int 0, (.ref a6), (.ref a7), .int 0, .int 0, .int 0, (.ref a8), (.ref a9), (.ref a10), .null])), (a1, .inl (cA, 111, .inl z0)), (a2, .inl (cA, 111, .inl z0)), (a3, .inl (cA, 111, .inl z0)), (a4, .inl (cA, 8, .inl z0)), (a5, .inl (cA, 120, .inl z0)), (a6, .inl (cB, 7, .inr (.inr (.inr (.inr (fun i => some (aS i))))))), (a7, .inl (cA, 960, .inl z0)), (a8, .inl (cA, 4, .inl z0)), (a9, .inl (cA, 4, .inl z0)), (a10, .inl (cA, 160, .inl z0)), (a11, .inl (cA, 40, .inl z0))] H := hP
  have hD : va_D A [(h0, .inr (4, [(.ref a1), (.ref a2), (.ref a3), .int 0, (.ref a4), (.ref a5), .int 0, .int 0, .int 0, .int 0, .int 0, .int 0, (.ref a6), (.ref a7), .int 0, .int 0, .int 0, (.ref a8), (.ref a9), (.ref a10), .null])), (a1, .inl (cA, 111, .inl z0)), (a2, .inl (cA, 111, .inl z0)), (a3, .inl (cA, 111, .inl z0)), (a4, .inl (cA, 8, .inl z0)), (a5, .inl (cA, 120, .inl z0)), (a6, .inl (cB, 7, .inr (.inr (.inr (.inr (fun i => some (aS i))))))), (a7, .inl (cA, 960, .inl z0)), (a8, .inl (cA, 4, .inl z0)), (a9, .inl (cA, 4, .inl z0)), (a10, .inl (cA, 160, .inl z0)), (a11, .inl (cA, 40, .inl z0))] := hD
  refine va_putF (D := D) (ci := 4) (v := (.ref a11)) (ty := (.array .int)) (C := RX5) (T := TX5) (N := 21) hx hb hts hin0 tyX5 tyX5_ok nmX5 hown hK hP hD hS 0 rfl rfl 20 (by decide) (tb (.fieldLink RX5 57 "TollSillsModel" "moved" "[I") (ts_wx_in (q := 4004) (by decide +kernel))) (fun _ h9 => h9) rfl hin rfl (by decide +kernel) rfl rfl (Nat.le_of_ble_eq_true rfl) dX5_init_126 (fun H locs hP hD hS => ?_)
  have hP : va_P D ts_vc [(h0, .inr (4, [(.ref a1), (.ref a2), (.ref a3), .int 0, (.ref a4), (.ref a5), .int 0, .int 0, .int 0, .int 0, .int 0, .int 0, (.ref a6), (.ref a7), .int 0, .int 0, .int 0, (.ref a8), (.ref a9), (.ref a10), (.ref a11)])), (a1, .inl (cA, 111, .inl z0)), (a2, .inl (cA, 111, .inl z0)), (a3, .inl (cA, 111, .inl z0)), (a4, .inl (cA, 8, .inl z0)), (a5, .inl (cA, 120, .inl z0)), (a6, .inl (cB, 7, .inr (.inr (.inr (.inr (fun i => some (aS i))))))), (a7, .inl (cA, 960, .inl z0)), (a8, .inl (cA, 4, .inl z0)), (a9, .inl (cA, 4, .inl z0)), (a10, .inl (cA, 160, .inl z0)), (a11, .inl (cA, 40, .inl z0))] H := hP
  have hD : va_D A [(h0, .inr (4, [(.ref a1), (.ref a2), (.ref a3), .int 0, (.ref a4), (.ref a5), .int 0, .int 0, .int 0, .int 0, .int 0, .int 0, (.ref a6), (.ref a7), .int 0, .int 0, .int 0, (.ref a8), (.ref a9), (.ref a10), (.ref a11)])), (a1, .inl (cA, 111, .inl z0)), (a2, .inl (cA, 111, .inl z0)), (a3, .inl (cA, 111, .inl z0)), (a4, .inl (cA, 8, .inl z0)), (a5, .inl (cA, 120, .inl z0)), (a6, .inl (cB, 7, .inr (.inr (.inr (.inr (fun i => some (aS i))))))), (a7, .inl (cA, 960, .inl z0)), (a8, .inl (cA, 4, .inl z0)), (a9, .inl (cA, 4, .inl z0)), (a10, .inl (cA, 160, .inl z0)), (a11, .inl (cA, 40, .inl z0))] := hD
  have hP : va_P D ts_vc (ww5 cA cB aS h0 (fun k => [0, a1, a2, a3, a4, a5, a6, a7, a8, a9, a10, a11].getD k 0) z0) H := hP
  have hD : va_D A (ww5 cA cB aS h0 (fun k => [0, a1, a2, a3, a4, a5, a6, a7, a8, a9, a10, a11].getD k 0) z0) := hD
  generalize hu : (fun k => [0, a1, a2, a3, a4, a5, a6, a7, a8, a9, a10, a11].getD k 0) = u at hP hD
  clear hu
  refine W.widen (k := 11) (n := 1636) (Nat.le_of_ble_eq_true rfl) (Nat.le_of_ble_eq_true rfl) ?_
  have loop : ∀ (t i : Nat) (f : Nat → Int32) (H : Heap) (locs : List Loc) (ls : Array Slot), i + t = 10 → ((∀ j, j < i → f (11 + j) = -1) ∧ ∀ j, j < 11 → f j = upd z0 2 1 j) → va_P D ts_vc (ww5 cA cB aS h0 u f) H → va_D A (ww5 cA cB aS h0 u f) → va_S A s.heap H locs → lv_has ls 2 [(0, .ref h0), (1, .int (nI i))] → W p l e (headSpec (ts_wl m_X5) { frames := 1, cells := 11, slots := 1636, locals := 39 }).room s m #[Value.ref h0] below meth c H locs 11 1636 (MQ below (va_Qv (fun u : (Nat → Nat) × (Nat → Int32) => (∀ j, j < 10 → u.2 (11 + j) = -1) ∧ ∀ j, j < 11 → u.2 j = upd z0 2 1 j) (fun u t => va_P D ts_vc (ww5 cA cB aS h0 u.1 u.2) t.heap ∧ va_K D ts_vc [(cA, .int), (cB, .object "java/lang/String")] t ∧ va_D A (ww5 cA cB aS h0 u.1 u.2)) A) #[Value.ref h0] s 11 1636 A) (F0 m 138 ls []) := by
    intro t
    induction t with
    | zero =>
      intro i f H locs ls e hf hP hD hS hl
      refine lv_iload_n hx hb dX5_init_138 rfl (lv_at hl 1 rfl) ?_
      refine lv_bipush (v := 10) hx hb dX5_init_139 (by decide) ?_
      refine lv_icmp_ge (tgt := 160) hx hb dX5_init_141 (by decide) (fun _ => ?_) (fun q => absurd (show (10 : Int32) ≤ nI i from nI_le (a := 10) (by omega) (by omega)) q)
      exact W.vret hx hb hr (fun t ht hW => ⟨⟨(u, f), rfl, ⟨fun j hj => hf.1 j (by omega), hf.2⟩, by rw [ht]; exact hP, va_K.moved hW.alike hK, hD⟩, hS.F ht⟩) hS.2.2 dX5_init_160 hlocks
    | succ t ih =>
      intro i f H locs ls e hf hP hD hS hl
      refine lv_iload_n hx hb dX5_init_138 rfl (lv_at hl 1 rfl) ?_
      refine lv_bipush (v := 10) hx hb dX5_init_139 (by decide) ?_
      refine lv_icmp_ge (tgt := 160) hx hb dX5_init_141 (by decide) (fun q => absurd q (show ¬ (10 : Int32) ≤ nI i from nI_ge (b := 10) (by omega) (by omega))) (fun _ => ?_)
      refine lv_aload_n hx hb dX5_init_144 rfl (lv_at hl 0 rfl) ?_
      refine va_get (D := D) (ci := 4) (v := .ref (u 1)) (C := RX5) (T := TX5) (N := 21) hx hb hts hin0 hown hK hP 0 rfl rfl 0 (by decide) (tb (.fieldLink RX5 9 "TollSillsModel" "now" "[I") (ts_wx_in (q := 3224) (by decide +kernel))) (fun _ h9 => h9) rfl dX5_init_145 ?_
      refine lv_bipush (v := 11) hx hb dX5_init_148 (by decide) ?_
      refine lv_iload_n hx hb dX5_init_150 rfl (lv_at hl 1 rfl) ?_
      refine lv_iadd hx hb dX5_init_151 ?_
      rw [show (11 : Int32) + nI i = nI (11 + i) from nI_add 11 i]
      refine lv_iconst (v := -1) hx hb dX5_init_152 (by decide) ?_
      refine va_iast hx hb hK hP hD hS 1 0 (f := f) rfl rfl (i := nI (11 + i)) (show vp_in (nI (11 + i)) 111 from vp_in_nI (by omega) (by omega)) dX5_init_153 (fun H locs hP hD hS => ?_)
      rw [nI_clamp (by omega)] at hP hD
      refine lv_iinc (v := nI (i + 1)) (lv' := [(1, .int (nI (i + 1))), (0, .ref h0)]) hx hb dX5_init_154 hl (k := 1) rfl (by rw [← nI_add]; rfl) (by decide) rfl (fun ls hl => ?_)
      refine lv_goto (tgt := 138) hx hb dX5_init_157 (by decide) ?_
      exact ih (i + 1) (upd f (11 + i) (-1)) H locs ls (by omega) ⟨fun j hj => by
        by_cases q : j = i
        · subst q; exact upd_at _ _ _
        · rw [upd_ne _ _ (by omega)]; exact hf.1 j (by omega), fun j hj => by rw [upd_ne _ _ (by omega)]; exact hf.2 j hj⟩ hP hD hS (lv_sub hl [1, 0] rfl)
  refine lv_aload_n hx hb dX5_init_129 rfl (lv_at hl 0 rfl) ?_
  refine va_get (D := D) (ci := 4) (v := .ref (u 1)) (C := RX5) (T := TX5) (N := 21) hx hb hts hin0 hown hK hP 0 rfl rfl 0 (by decide) (tb (.fieldLink RX5 9 "TollSillsModel" "now" "[I") (ts_wx_in (q := 3224) (by decide +kernel))) (fun _ h9 => h9) rfl dX5_init_130 ?_
  refine lv_iconst (v := 2) hx hb dX5_init_133 (by decide) ?_
  refine lv_iconst (v := 1) hx hb dX5_init_134 (by decide) ?_
  refine va_iast hx hb hK hP hD hS 1 0 (f := z0) rfl rfl (i := 2) (x := 1) (show ¬ ((2 : Int32) < 0 ∨ 111 ≤ (2 : Int32).toNatClampNeg) by decide) dX5_init_135 (fun H locs hP hD hS => ?_)
  refine lv_iconst (v := 0) hx hb dX5_init_136 (by decide) ?_
  refine lv_istore_n (lv' := [(1, .int 0), (0, .ref h0)]) hx hb dX5_init_137 rfl hl (by decide) rfl (fun ls hl => ?_)
  exact loop 10 0 (upd z0 2 1) _ _ ls (by omega) ⟨fun j hj => by omega, fun j hj => rfl⟩ hP hD hS (lv_sub hl [1, 0] rfl)
