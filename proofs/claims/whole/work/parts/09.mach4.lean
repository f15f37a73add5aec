/-! answers, calls -/
section TSR
variable {X : ts_X} {p : Program} {l : Launch} {e : Env} {R : Room} {s : State} {m : MethodId} {args : Array Value} {below : List Frame} {meth : Method} {c : Code} {cc : ByteArray} {nL : Nat} {own : String} {Ts : List Cond} {Q : State → Prop} {pc : Nat} {lo : ts_L} {st : List ts_V} {σ : ts_S} {k : ts_K} {res : ts_A}
theorem tk_ireturn (C : ts_Cx X p s m args meth c cc nL own Ts) (hr : meth.sig.returnType = some .int) {x : Int32} (hd : decode cc pc = .ok (.ireturn, 1)) : ts_VV X p l e R s m args below meth c nL (MQ below (ts_Po X (some (.inl x)) σ) args s 0 0 X.2.2.2.2.2.2) (pc, lo, [.inl x], σ) :=
  fun H locs ls hP hS hL => W.iret C.1 C.2.1 hr (fun t ht hW => ⟨rfl, by rw [ht]; exact hP, hS.F ht⟩) hS.2.2 hd C.2.2.2.2.2.2.2.2
theorem tk_zreturn (C : ts_Cx X p s m args meth c cc nL own Ts) (hr : meth.sig.returnType = some .boolean) {x : Int32} (hx : x = 0 ∨ x = 1) (hd : decode cc pc = .ok (.ireturn, 1)) : ts_VV X p l e R s m args below meth c nL (MQ below (ts_Po X (some (.inl x)) σ) args s 0 0 X.2.2.2.2.2.2) (pc, lo, [.inl x], σ) :=
  fun H locs ls hP hS hL => W.zret C.1 C.2.1 hr (by rcases hx with rfl | rfl <;> decide) (fun t ht hW => ⟨rfl, by rw [ht]; exact hP, hS.F ht⟩) hS.2.2 hd C.2.2.2.2.2.2.2.2
theorem tk_lreturn (C : ts_Cx X p s m args meth c cc nL own Ts) (hr : meth.sig.returnType = some .long) {x : Int64} (hd : decode cc pc = .ok (.lreturn, 1)) : ts_VV X p l e R s m args below meth c nL (MQ below (ts_Po X (some (.inr (.inl x))) σ) args s 0 0 X.2.2.2.2.2.2) (pc, lo, [.inr (.inl x)], σ) :=
  fun H locs ls hP hS hL => W.lret C.1 C.2.1 hr (fun t ht hW => ⟨rfl, by rw [ht]; exact hP, hS.F ht⟩) hS.2.2 hd C.2.2.2.2.2.2.2.2
theorem tk_areturn (C : ts_Cx X p s m args meth c cc nL own Ts) {nm : String} (hr : meth.sig.returnType = some (.object nm)) {x : (Nat × Nat) ⊕ Nat} (hd : decode cc pc = .ok (.areturn, 1)) : ts_VV X p l e R s m args below meth c nL (MQ below (ts_Po X (some (.inr (.inr x))) σ) args s 0 0 X.2.2.2.2.2.2) (pc, lo, [.inr (.inr x)], σ) := by
  intro H locs ls hP hS hL
  have ht : ∃ a, ts_tr X (.inr (.inr x)) = .ref a := by
    rcases x with ⟨g, c⟩ | x
    · exact ⟨_, rfl⟩
    · exact ⟨_, rfl⟩
  exact W.aret C.1 C.2.1 hr (Or.inl ⟨nm, rfl⟩) (Or.inr ht) (fun t ht hW => ⟨rfl, by rw [ht]; exact hP, hS.F ht⟩) hS.2.2 hd C.2.2.2.2.2.2.2.2
theorem tk_return (C : ts_Cx X p s m args meth c cc nL own Ts) (hr : meth.sig.returnType = none) (hd : decode cc pc = .ok (.return_, 1)) : ts_VV X p l e R s m args below meth c nL (MQ below (ts_Po X none σ) args s 0 0 X.2.2.2.2.2.2) (pc, lo, [], σ) :=
  fun H locs ls hP hS hL => W.vret C.1 C.2.1 hr (fun t ht hW => ⟨rfl, by rw [ht]; exact hP, hS.F ht⟩) hS.2.2 hd C.2.2.2.2.2.2.2.2
theorem ts_psh_map (X : ts_X) (r : Option ts_V) (rest : List ts_V) : (ts_psh r rest).map (ts_tr X) = (r.map (ts_tr X)).toList ++ rest.map (ts_tr X) := by
  cases r <;> rfl
theorem ts_bd_i {u : Nat} {o : Option ts_A} {rest : List ts_V} {f : List ts_V → ts_S → Option ts_A} {a : ts_A} (h : ts_bd u o rest f = some a) : o.bind (fun q => f (ts_psh q.1 rest) q.2) = some a := by
  unfold ts_bd at h
  split at h
  · unfold ts_bi at h; split at h
    · exact h
    · cases h
  · unfold ts_bv at h; split at h
    · exact h
    · cases h
  · unfold ts_bl at h; split at h
    · exact h
    · cases h
  · unfold ts_bs at h; split at h
    · exact h
    · cases h
/-- behind a call -/
theorem ts_go {H : Heap} {locs : List Loc} {ls : Array Slot} {st0 : List Value} {r : Option ts_V} {σ1 : ts_S} {rest : List ts_V} {a : Array Value} (hr : va_Run p l e R s m args below meth c H locs 0 0 0 0 (F0 m pc ls st0) (rest.map (ts_tr X)) (ts_Po X r σ1 a) X.2.2.2.2.2.2) (hS : va_S X.2.2.2.2.2.2 s.heap H locs)
    (kk : ∀ (H1 : Heap) (locs1 : List Loc), va_P X.1 ts_vc (ts_ws X σ1) H1 → va_S X.2.2.2.2.2.2 s.heap H1 locs1 → W p l e R s m args below meth c H1 locs1 0 0 Q (F0 m (pc + 3) ls ((ts_psh r rest).map (ts_tr X)))) : W p l e R s m args below meth c H locs 0 0 Q (F0 m pc ls st0) := by
  intro T hT Z
  obtain ⟨v, st₀, t, T', L, h0, Z', hL, e1, e2, ⟨hv, hp, hz, hk⟩, st⟩ := hr T hT Z
  have hv' : v = r.map (ts_tr X) := by injection hv
  subst hv'
  rw [h0] at hz hk
  obtain ⟨t2, a1, b1⟩ := kk T'.heap (locs ++ L) (by rw [e1]; exact hp)
    ⟨Nat.le_trans hS.1 (by rw [e1]; exact hz), fun q h1 h2 => by rw [e1, hk q (Nat.lt_of_lt_of_le h1 hS.1) h2]; exact hS.2.1 q h1 h2, fun q hq => by
      rcases List.mem_append.mp hq with h | h
      · exact hS.2.2 q h
      · exact hL q h⟩ T' rfl Z'
  rw [ts_psh_map] at a1
  exact ⟨t2, st t2 a1, b1⟩
theorem ts_good {mi : ts_M} (hi : ∀ w ∈ ts_TB, w ∈ Ts) (hc : Cond.code mi.1 mi.2.1 mi.2.2.1 mi.2.2.2.1 ∈ ts_TB) : GoodIn Ts (ts_wl mi) := by
  intro w hw
  have h : w ∈ ts_TB := by
    rcases List.mem_cons.mp hw with rfl | h
    · exact hc
    · exact h
  exact ⟨hi w h, good_of_word (List.mem_filter.mp h).2⟩
theorem ts_blind {as : List Value} : FrameBlind (va_Pc as (ts_Pr X σ)) := fun a U g mk q => ⟨q.1, q.2.1, ts_Y_call q.2.2⟩
theorem ts_pre (C : ts_Cx X p s m args meth c cc nL own Ts) {H : Heap} {locs : List Loc} (hP : va_P X.1 ts_vc (ts_ws X σ) H) (hS : va_S X.2.2.2.2.2.2 s.heap H locs) (as : List Value) : ∀ U : State, U.heap = H → s.WarmedH U.vm → va_Pc as (ts_Pr X σ) as.toArray U :=
  fun U hU hW => ⟨rfl, by rw [hU]; exact hP, ts_Y_to C.2.2.2.2.2.2.1 hW (fun q h1 h2 => by rw [hU]; exact hS.2.1 q h1 h2)⟩
theorem ts_sum_map (X : ts_X) : ∀ r : List ts_V, ((r.map (ts_tr X)).map fun v => v.category).sum = ts_sum r
  | [] => rfl
  | v :: r => by
    have := ts_sum_map X r
    simp only [List.map_cons, List.sum_cons, ts_tr_cat, ts_sum]
    rw [this]
theorem ts_fit {d d' : Nat} {n : Nat} (h : d' < d) (hn : n ≤ 20) : (ts_room d').frames + 1 ≤ (ts_room d).frames ∧ 8 + (n + 11) + (ts_room d').locals ≤ (ts_room d).locals := by
  refine ⟨h, ?_⟩
  show 8 + (n + 11) + 39 * d' ≤ 39 * d
  omega
theorem ts_recv (hY : ts_Y X s s.heap) {H : Heap} {locs : List Loc} (hP : va_P X.1 ts_vc (ts_ws X σ) H) (hS : va_S X.2.2.2.2.2.2 s.heap H locs) {t : Nat} (ht : t < 5 ∨ t = 8) {v : ts_V} {as : List ts_V} (h : ts_rc t (v :: as) = true) : ∃ a, ts_tr X v = .ref a ∧ ∃ cell : Cell, H[a]? = some cell ∧ cell.vm.isStatics = false ∧ s.vm.findClass (ts_cn t) = some cell.cls := by
  have h9 : ¬ t = 9 := by omega
  rcases v with x | x | ⟨g, c⟩ | j
  · simp [ts_rc, h9] at h
  · simp [ts_rc, h9] at h
  · simp only [ts_rc, Bool.or_eq_true, Bool.and_eq_true, beq_iff_eq, h9, or_false] at h
    obtain ⟨rfl, rfl⟩ := h
    have ha : ts_kd g < 5 := by
      rcases ht with h | h
      · exact h
      · exfalso
        have : ∀ g, ts_kd g ≠ 8 := by
          intro g
          unfold ts_kd
          split <;> decide
        exact this g h
    obtain ⟨q, hq, hqw⟩ := ts_at X σ (ts_cell_obj (ts_kd_lt rfl ha))
    exact ⟨_, rfl, va_recv hY.1 hP (ts_vc_at ha) hqw⟩
  · simp only [ts_rc, Bool.or_eq_true, Bool.and_eq_true, beq_iff_eq, h9, or_false] at h
    obtain ⟨rfl, hj⟩ := h
    obtain ⟨cell, h1, h2, h3, -⟩ := (hY.2.1 j (Nat.le_of_ble_eq_true hj)).1.kept hS.2.1
    exact ⟨_, rfl, cell, h1, h2, h3⟩
theorem ts_split (X : ts_X) {b : Nat} {v : ts_V} {as : List ts_V} (h : (st.take b).reverse = v :: as) : st.map (ts_tr X) = (as.map (ts_tr X)).reverse ++ ts_tr X v :: (st.drop b).map (ts_tr X) := by
  have e : st = as.reverse ++ v :: st.drop b := by
    have h1 : st.take b = as.reverse ++ [v] := by rw [← List.reverse_reverse (st.take b), h, List.reverse_cons]
    calc st = st.take b ++ st.drop b := (List.take_append_drop b st).symm
      _ = as.reverse ++ v :: st.drop b := by rw [h1]; simp
  have e2 := congrArg (List.map (ts_tr X)) e
  rw [List.map_append, List.map_cons, List.map_reverse] at e2
  exact e2
theorem ts_splitS (X : ts_X) {b : Nat} : st.map (ts_tr X) = (((st.take b).reverse).map (ts_tr X)).reverse ++ (st.drop b).map (ts_tr X) := by
  rw [List.map_reverse, List.reverse_reverse, ← List.map_append, List.take_append_drop]
theorem tk_virt {d : Nat} (C : ts_Cx X p s m args meth c cc nL own Ts) (hk : ∀ f, k f = some res → ts_VV X p l e (ts_room d) s m args below meth c nL Q f) {j b : Nat} {mi : ts_M} {S : List ts_V → ts_S → Option ts_A} (hc : ts_Cal X l d mi S) (ht : ¬ mi.2.2.2.2.2 = 9) (hb : b = mi.2.2.2.2.1 + 1) (hw : Cond.methodLink own j mi.1 ∈ ts_TB) (hd : decode cc pc = .ok (.invokevirtual j, 3)) (hlen : b ≤ st.length) (hsum : ts_sum (st.drop b) ≤ 8) (hrc : ts_rc mi.2.2.2.2.2 (st.take b).reverse = true)
    (h : (S (st.take b).reverse σ).bind (fun q => k (pc + 3, lo, ts_psh q.1 (st.drop b), q.2)) = some res) : ts_VV X p l e (ts_room d) s m args below meth c nL Q (pc, lo, st, σ) := by
  obtain ⟨⟨⟨hcode, hini⟩, hd1, hmx, hkind⟩, d', hdd, hM⟩ := hc
  cases hS' : S (st.take b).reverse σ with
  | none => rw [hS'] at h; cases h
  | some q =>
    obtain ⟨r, σ1⟩ := q
    rw [hS'] at h
    have h : k (pc + 3, lo, ts_psh r (st.drop b), σ1) = some res := h
    rcases hkind with ⟨e1, -⟩ | ⟨hlt, hcn, hinst, hsel⟩
    · exact absurd e1 ht
    have hlen2 : ((st.take b).reverse).length = b := by rw [List.length_reverse, List.length_take]; omega
    cases has : (st.take b).reverse with
    | nil => rw [has] at hlen2; simp at hlen2; omega
    | cons v as =>
      rw [has] at hrc hS' hlen2
      intro H locs ls hP hS hL
      obtain ⟨a, hv, cell, hc1, hc2, hc3⟩ := ts_recv C.2.2.2.2.2.2.1 hP hS hlt hrc
      have hMet := hM (v :: as) σ r σ1 hS'
      have tb : ∀ w ∈ ts_TB, w.before args s = true := fun w hw => C.2.2.2.2.1 w (C.2.2.2.2.2.1 w hw)
      have hnl : (as.map (ts_tr X)).length = mi.2.2.2.2.1 := by
        rw [List.length_map]
        simp at hlen2
        omega
      have hstk : (F0 m pc ls (st.map (ts_tr X))).stack = (as.map (ts_tr X)).reverse ++ Value.ref a :: (st.drop b).map (ts_tr X) := by
        show st.map (ts_tr X) = _
        rw [ts_split X has, hv]
      have hpc : va_Pc ((v :: as).map (ts_tr X)) (ts_Pr X σ) = va_Pc (Value.ref a :: as.map (ts_tr X)) (ts_Pr X σ) := by rw [List.map_cons, hv]
      rw [hpc] at hMet
      refine ts_go (a := (Value.ref a :: as.map (ts_tr X)).toArray) (rest := st.drop b) (va_runV (C := mi.1.cls) (b := a) (As := as.map (ts_tr X)) (rest := (st.drop b).map (ts_tr X)) (n := mi.2.2.2.2.1) ⟨C.1, C.2.1, C.2.2.1, C.2.2.2.1, C.2.2.2.2.1⟩ hMet
        ⟨callB_of mi.2.2.2.2.1 C.2.2.2.2.1 (ts_good C.2.2.2.2.2.1 hcode) rfl rfl rfl (tb _ hini) (tb _ hw) hd1 (ts_fit hdd hmx), tb _ hinst, tb _ hsel⟩
        ⟨ts_blind, ⟨cell, hc1, hc2, by rw [← hcn]; exact hc3⟩, ts_pre C hP hS _⟩ rfl hnl hL.2.1 hstk (lv_room (by rw [ts_sum_map]; exact hsum)) hd ⟨Nat.le_refl _, Nat.le_refl _⟩) hS (fun H1 locs1 hP1 hS1 => hk _ h H1 locs1 ls hP1 hS1 hL)
theorem tk_stat {d : Nat} (C : ts_Cx X p s m args meth c cc nL own Ts) (hk : ∀ f, k f = some res → ts_VV X p l e (ts_room d) s m args below meth c nL Q f) {j b : Nat} {mi : ts_M} {S : List ts_V → ts_S → Option ts_A} (hc : ts_Cal X l d mi S) (ht : mi.2.2.2.2.2 = 9) (hb : b = mi.2.2.2.2.1) (hw : Cond.methodLink own j mi.1 ∈ ts_TB ∨ (own = RX1 ∧ j = 64 ∧ mi.1 = yX4_isBelow)) (hd : decode cc pc = .ok (.invokestatic j, 3)) (hlen : b ≤ st.length) (hsum : ts_sum (st.drop b) ≤ 8)
    (h : (S (st.take b).reverse σ).bind (fun q => k (pc + 3, lo, ts_psh q.1 (st.drop b), q.2)) = some res) : ts_VV X p l e (ts_room d) s m args below meth c nL Q (pc, lo, st, σ) := by
  obtain ⟨⟨⟨hcode, hini⟩, hd1, hmx, hkind⟩, d', hdd, hM⟩ := hc
  cases hS' : S (st.take b).reverse σ with
  | none => rw [hS'] at h; cases h
  | some q =>
    obtain ⟨r, σ1⟩ := q
    rw [hS'] at h
    have h : k (pc + 3, lo, ts_psh r (st.drop b), σ1) = some res := h
    rcases hkind with ⟨-, hstat⟩ | ⟨hlt, -⟩
    · have hnl : (((st.take b).reverse).map (ts_tr X)).length = mi.2.2.2.2.1 := by rw [List.length_map, List.length_reverse, List.length_take]; omega
      intro H locs ls hP hS hL
      have hMet := hM _ σ r σ1 hS'
      have tb : ∀ w ∈ ts_TB, w.before args s = true := fun w hw => C.2.2.2.2.1 w (C.2.2.2.2.2.1 w hw)
      have hstk : (F0 m pc ls (st.map (ts_tr X))).stack = (((st.take b).reverse).map (ts_tr X)).reverse ++ (st.drop b).map (ts_tr X) := ts_splitS X
      rcases hw with hw | ⟨rfl, rfl, hy⟩
      · exact ts_go (a := (((st.take b).reverse).map (ts_tr X)).toArray) (rest := st.drop b) (va_runS (As := ((st.take b).reverse).map (ts_tr X)) (rest := (st.drop b).map (ts_tr X)) (n := mi.2.2.2.2.1) ⟨C.1, C.2.1, C.2.2.1, C.2.2.2.1, C.2.2.2.2.1⟩ hMet
          ⟨callB_of mi.2.2.2.2.1 C.2.2.2.2.1 (ts_good C.2.2.2.2.2.1 hcode) rfl rfl rfl (tb _ hini) (tb _ hw) hd1 (ts_fit hdd hmx), tb _ hstat⟩
          ⟨ts_blind, ts_pre C hP hS _⟩ rfl hnl hL.2.1 hstk (lv_room (by rw [ts_sum_map]; exact hsum)) hd ⟨Nat.le_refl _, Nat.le_refl _⟩) hS (fun H1 locs1 hP1 hS1 => hk _ h H1 locs1 ls hP1 hS1 hL)
      · have hnw : va_Nw (.methodLinkNest RX1 64 mi.1 RX4) s := by rw [hy]; exact C.2.2.2.2.2.2.1.2.2.2.1
        exact ts_go (a := (((st.take b).reverse).map (ts_tr X)).toArray) (rest := st.drop b) (va_runSN (As := ((st.take b).reverse).map (ts_tr X)) (rest := (st.drop b).map (ts_tr X)) (n := mi.2.2.2.2.1) ⟨C.1, C.2.1, C.2.2.1, C.2.2.2.1, C.2.2.2.2.1⟩ hMet
          ⟨va_cnB mi.2.2.2.2.1 C.2.2.2.2.1 (ts_good C.2.2.2.2.2.1 hcode) rfl rfl rfl hnw (tb _ hini) hd1 (ts_fit hdd hmx), tb _ hstat, trivial⟩
          ⟨ts_blind, ts_pre C hP hS _⟩ rfl hnl hL.2.1 hstk (lv_room (by rw [ts_sum_map]; exact hsum)) hd ⟨Nat.le_refl _, Nat.le_refl _⟩) hS (fun H1 locs1 hP1 hS1 => hk _ h H1 locs1 ls hP1 hS1 hL)
    · omega
theorem ts_ac_i {f : List ts_V → ts_S → Option ts_A} {a : ts_A} (h : ts_ac st σ f = some a) : ∃ n dp g1 c1 sp g0 c0 r n0 n1, st = .inl n :: .inl dp :: .inr (.inr (.inl (g1, c1))) :: .inl sp :: .inr (.inr (.inl (g0, c0))) :: r ∧ (ts_al (ts_kd g0))[c0]? = some (some n0) ∧ (ts_al (ts_kd g1))[c1]? = some (some n1) ∧ ¬ (sp < 0 ∨ dp < 0 ∨ n < 0 ∨ n0 < sp.toNatClampNeg + n.toNatClampNeg ∨ n1 < dp.toNatClampNeg + n.toNatClampNeg) ∧ f r (va_up σ g1 (va_up (σ g1) c1 (va_cpy (σ g0 c0) (σ g1 c1) sp.toNatClampNeg dp.toNatClampNeg n.toNatClampNeg))) = some a := by
  unfold ts_ac at h
  split at h
  · obtain ⟨n0, h1, h⟩ := ts_an_i h
    obtain ⟨n1, h2, h⟩ := ts_an_i h
    split at h
    · cases h
    · next hn => exact ⟨_, _, _, _, _, _, _, _, n0, n1, rfl, h1, h2, hn, h⟩
  · cases h
theorem tk_copy {d : Nat} (hd0 : 0 < d) (C : ts_Cx X p s m args meth c cc nL own Ts) (hk : ∀ f, k f = some res → ts_VV X p l e (ts_room d) s m args below meth c nL Q f) {j : Nat} (hw : Cond.methodLink own j arraycopyName ∈ ts_TB) (hw2 : Cond.native arraycopyName ∈ ts_TB ∧ Cond.static arraycopyName ∈ ts_TB ∧ Cond.initialized "java/lang/System" ∈ ts_TB) (hd : decode cc pc = .ok (.invokestatic j, 3))
    (h0 : ts_ac st σ (fun r σ' => cond (Nat.ble (ts_sum r) 8) (k (pc + 3, lo, r, σ')) none) = some res) : ts_VV X p l e (ts_room d) s m args below meth c nL Q (pc, lo, st, σ) := by
  obtain ⟨n, dp, g1, c1, sp, g0, c0, r, n0, n1, rfl, h1, h2, hn, h⟩ := ts_ac_i h0
  obtain ⟨hs, h3⟩ := ts_cond_i h
  have hs : ts_sum r ≤ 8 := Nat.le_of_ble_eq_true hs
  obtain ⟨hc, hc0⟩ := ts_cell_row (ts_al_lt h1) h1
  obtain ⟨hc', hc0'⟩ := ts_cell_row (ts_al_lt h2) h2
  have tb : ∀ w ∈ ts_TB, w.before args s = true := fun w hw => C.2.2.2.2.1 w (C.2.2.2.2.2.1 w hw)
  simp only [not_or, Nat.not_lt] at hn
  intro H locs ls hP hS hL
  obtain ⟨q, hq, hqw⟩ := ts_at X σ hc
  obtain ⟨q', hq', hqw'⟩ := ts_at X σ hc'
  rw [ts_en_row X σ hc0 h1] at hqw
  rw [ts_en_row X σ hc0' h2] at hqw'
  refine va_copyi (D := X.1) (ty := .int) C.1 C.2.1 (by rw [C.2.2.1, hL.2.1]) C.2.2.2.1 (tb _ hw) (tb _ hw2.1) (tb _ hw2.2.1) (tb _ hw2.2.2) C.2.2.2.2.2.2.1.1 hP (C.2.2.2.2.2.2.2.1 σ) hS q q' 0 0 hqw hqw' rfl rfl rfl hn.1 hn.2.1 hn.2.2.1 hn.2.2.2.1 hn.2.2.2.2 (fun _ _ => rfl) hd0 (by
    rw [ts_sum_map]
    show ts_sum r + (5 + 2 + 11) ≤ 39 * d
    omega) hd (fun H1 locs1 hP1 _ hS1 => ?_)
  rw [ts_set X (σ' := va_up σ g1 (va_up (σ g1) c1 (va_cpy (σ g0 c0) (σ g1 c1) sp.toNatClampNeg dp.toNatClampNeg n.toNatClampNeg))) hq' (by rw [ts_en_row X _ hc0' h2, ts_put_s]) (ts_put_o σ g1 c1 _)] at hP1
  exact hk _ h3 H1 locs1 ls hP1 hS1 hL
end TSR
