/-! the pure machine's step is the machine's -/
/-- a method: its name, code, locals, answer, how many parameters, the receiver's kind (9: static) -/
abbrev ts_M : Type := MethodName × ByteArray × Nat × Option FieldType × Nat × Nat
def ts_TB : List Cond := lw_tbl.filter goodWord
def ts_wl (mi : ts_M) : List Cond := .code mi.1 mi.2.1 mi.2.2.1 mi.2.2.2.1 :: ts_TB
def ts_sg : List (List Cond) := [k2_sels lw_privs, tables_1_1, tables_1_2, tables_1_3, tables_1_4, tables_1_5, tables_1_6]
def ts_wd (q : Nat) : Option Cond := match ts_sg[q / 1000]? with
  | some l => l[q % 1000]?
  | none => none
theorem ts_sg_in {l : List Cond} (h : l ∈ ts_sg) : ∀ w ∈ l, w ∈ lw_tbl := by
  intro w hw
  unfold lw_tbl tables_1
  simp only [ts_sg, List.mem_cons, List.not_mem_nil, or_false] at h
  simp only [List.mem_append]
  rcases h with rfl | rfl | rfl | rfl | rfl | rfl | rfl <;> simp [hw]
theorem ts_wd_in {q : Nat} {w : Cond} (h : ts_wd q = some w) : w ∈ lw_tbl := by
  unfold ts_wd at h
  split at h
  · next l hl => exact ts_sg_in (List.mem_of_getElem? hl) w (List.mem_of_getElem? h)
  · cases h
def ts_wx (q : Nat) (w : Cond) : Bool := goodWord w && decide (ts_wd q = some w)
theorem ts_wx_in {q : Nat} {w : Cond} (h : ts_wx q w = true) : w ∈ ts_TB := by
  simp only [ts_wx, Bool.and_eq_true, decide_eq_true_eq] at h
  exact List.mem_filter.mpr ⟨ts_wd_in h.2, h.1⟩
def ts_room (d : Nat) : Room := { frames := d, cells := 0, slots := 0, locals := 39 * d }
def ts_Pr (X : ts_X) (σ : ts_S) (U : State) : Prop := va_P X.1 ts_vc (ts_ws X σ) U.heap ∧ ts_Y X U U.heap
def ts_Po (X : ts_X) (r : Option ts_V) (σ : ts_S) : Array Value → State → Outcome → State → Prop := fun _ st oc t => oc = .returned (r.map (ts_tr X)) ∧ va_P X.1 ts_vc (ts_ws X σ) t.heap ∧ va_F X.2.2.2.2.2.2 st t
/-- a method's contract: from arguments and a world where the pure function answers, it answers so -/
def ts_Met (X : ts_X) (l : Launch) (mi : ts_M) (d : Nat) (S : List ts_V → ts_S → Option ts_A) : Prop := ∀ (as : List ts_V) (σ : ts_S) (r : Option ts_V) (σ' : ts_S), S as σ = some (r, σ') → Met l mi.1 (ts_wl mi) (ts_room d) (va_Pc (as.map (ts_tr X)) (ts_Pr X σ)) (ts_Po X r σ') 0 0 X.2.2.2.2.2.2
def ts_cn (t : Nat) : String := match t with
  | 0 => RX1
  | 1 => RX2
  | 2 => RX3
  | 3 => RX4
  | 4 => RX5
  | _ => "java/lang/String"
/-- the words of a method that is called -/
def ts_mw (mi : ts_M) : Prop := (Cond.code mi.1 mi.2.1 mi.2.2.1 mi.2.2.2.1 ∈ ts_TB ∧ Cond.initialized mi.1.cls ∈ ts_TB) ∧ (mi.1.cls ≠ "java/lang/invoke/MethodHandle" ∧ mi.1.cls ≠ "java/lang/invoke/VarHandle" ∧ (parseMethodDescriptor mi.1.desc).map (fun d => d.parameters.length) = some mi.2.2.2.2.1) ∧ mi.2.2.1 ≤ 20 ∧ ((mi.2.2.2.2.2 = 9 ∧ Cond.static mi.1 ∈ ts_TB) ∨ ((mi.2.2.2.2.2 < 5 ∨ mi.2.2.2.2.2 = 8) ∧ ts_cn mi.2.2.2.2.2 = mi.1.cls ∧ Cond.instanceMethod mi.1 ∈ ts_TB ∧ Cond.selects mi.1.cls mi.1 mi.1 ∈ ts_TB))
/-- a callee, from a room of depth d -/
def ts_Cal (X : ts_X) (l : Launch) (d : Nat) (mi : ts_M) (S : List ts_V → ts_S → Option ts_A) : Prop := ts_mw mi ∧ ∃ d', d' < d ∧ ts_Met X l mi d' S
def ts_Cx (X : ts_X) (p : Program) (s : State) (m : MethodId) (args : Array Value) (meth : Method) (c : Code) (cc : ByteArray) (nL : Nat) (own : String) (Ts : List Cond) : Prop :=
  p.tables.exec = Jvm.exec ∧ c.code = cc ∧ c.maxLocals = nL ∧ s.vm.findClass own = some m.cls ∧ (∀ w ∈ Ts, w.before args s = true) ∧ (∀ w ∈ ts_TB, w ∈ Ts) ∧ ts_Y X s s.heap ∧ (∀ σ, va_D X.2.2.2.2.2.2 (ts_ws X σ)) ∧ meth.locks = false
def ts_VV (X : ts_X) (p : Program) (l : Launch) (e : Env) (R : Room) (s : State) (m : MethodId) (args : Array Value) (below : List Frame) (meth : Method) (c : Code) (nL : Nat) (Q : State → Prop) (f : ts_C) : Prop :=
  ∀ (H : Heap) (locs : List Loc) (ls : Array Slot), va_P X.1 ts_vc (ts_ws X f.2.2.2) H → va_S X.2.2.2.2.2.2 s.heap H locs → ts_lo X nL f.2.1 ls → W p l e R s m args below meth c H locs 0 0 Q (F0 m f.1 ls (f.2.2.1.map (ts_tr X)))
/-! what the shapes of a step say -/
theorem ts_o1_i {st : List ts_V} {f : Int32 → List ts_V → Option ts_A} {a : ts_A} (h : ts_o1 st f = some a) : ∃ x r, st = .inl x :: r ∧ f x r = some a := by
  unfold ts_o1 at h
  split at h
  · exact ⟨_, _, rfl, h⟩
  · cases h
theorem ts_o2_i {st : List ts_V} {f : Int32 → Int32 → List ts_V → Option ts_A} {a : ts_A} (h : ts_o2 st f = some a) : ∃ x y r, st = .inl y :: .inl x :: r ∧ f x y r = some a := by
  unfold ts_o2 at h
  split at h
  · exact ⟨_, _, _, rfl, h⟩
  · cases h
theorem ts_l1_i {st : List ts_V} {f : Int64 → List ts_V → Option ts_A} {a : ts_A} (h : ts_l1 st f = some a) : ∃ x r, st = .inr (.inl x) :: r ∧ f x r = some a := by
  unfold ts_l1 at h
  split at h
  · exact ⟨_, _, rfl, h⟩
  · cases h
theorem ts_l2_i {st : List ts_V} {f : Int64 → Int64 → List ts_V → Option ts_A} {a : ts_A} (h : ts_l2 st f = some a) : ∃ x y r, st = .inr (.inl y) :: .inr (.inl x) :: r ∧ f x y r = some a := by
  unfold ts_l2 at h
  split at h
  · exact ⟨_, _, _, rfl, h⟩
  · cases h
theorem ts_r1_i {st : List ts_V} {f : Nat → Nat → List ts_V → Option ts_A} {a : ts_A} (h : ts_r1 st f = some a) : ∃ g c r, st = .inr (.inr (.inl (g, c))) :: r ∧ f g c r = some a := by
  unfold ts_r1 at h
  split at h
  · exact ⟨_, _, _, rfl, h⟩
  · cases h
theorem ts_r2_i {st : List ts_V} {f : Int32 → Nat → Nat → List ts_V → Option ts_A} {a : ts_A} (h : ts_r2 st f = some a) : ∃ i g c r, st = .inl i :: .inr (.inr (.inl (g, c))) :: r ∧ f i g c r = some a := by
  unfold ts_r2 at h
  split at h
  · exact ⟨_, _, _, _, rfl, h⟩
  · cases h
theorem ts_r3_i {st : List ts_V} {f : Int32 → Int32 → Nat → Nat → List ts_V → Option ts_A} {a : ts_A} (h : ts_r3 st f = some a) : ∃ x i g c r, st = .inl x :: .inl i :: .inr (.inr (.inl (g, c))) :: r ∧ f x i g c r = some a := by
  unfold ts_r3 at h
  split at h
  · exact ⟨_, _, _, _, _, rfl, h⟩
  · cases h
theorem ts_li_i {lo : ts_L} {i : Nat} {f : Int32 → Option ts_A} {a : ts_A} (h : ts_li lo i f = some a) : ∃ x, lo[i]? = some (some (.inl x)) ∧ f x = some a := by
  unfold ts_li at h
  split at h
  · next x hx => exact ⟨x, hx, h⟩
  · cases h
theorem ts_ll_i {lo : ts_L} {i : Nat} {f : Int64 → Option ts_A} {a : ts_A} (h : ts_ll lo i f = some a) : ∃ x, lo[i]? = some (some (.inr (.inl x))) ∧ f x = some a := by
  unfold ts_ll at h
  split at h
  · next x hx => exact ⟨x, hx, h⟩
  · cases h
theorem ts_lr_i {lo : ts_L} {i : Nat} {f : (Nat × Nat) ⊕ Nat → Option ts_A} {a : ts_A} (h : ts_lr lo i f = some a) : ∃ x, lo[i]? = some (some (.inr (.inr x))) ∧ f x = some a := by
  unfold ts_lr at h
  split at h
  · next x hx => exact ⟨x, hx, h⟩
  · cases h
theorem ts_an_i {k c : Nat} {f : Nat → Option ts_A} {a : ts_A} (h : ts_an k c f = some a) : ∃ n, (ts_al k)[c]? = some (some n) ∧ f n = some a := by
  unfold ts_an at h
  split at h
  · next n hn => exact ⟨n, hn, h⟩
  · cases h
theorem ts_ck_i {i : Int32} {n : Nat} {x : Option ts_A} {a : ts_A} (h : ts_ck i n x = some a) : vp_in i n ∧ x = some a := by
  unfold ts_ck at h
  split at h
  · cases h
  · next hn => exact ⟨hn, h⟩
theorem ts_cond_i {b : Bool} {x : Option ts_A} {a : ts_A} (h : cond b x none = some a) : b = true ∧ x = some a := by
  cases b
  · cases h
  · exact ⟨rfl, h⟩
theorem ts_sto_i {lo : ts_L} {i : Nat} {v : ts_V} {f : ts_L → Option ts_A} {a : ts_A} (h : ts_sto lo i v f = some a) : i < lo.length ∧ ts_nl lo i = true ∧ f (lo.set i (some v)) = some a := by
  obtain ⟨h1, h2⟩ := ts_cond_i h
  simp only [Bool.and_eq_true] at h1
  exact ⟨Nat.le_of_ble_eq_true h1.1, h1.2, h2⟩
theorem ts_st2_i {lo : ts_L} {i : Nat} {v : ts_V} {f : ts_L → Option ts_A} {a : ts_A} (h : ts_st2 lo i v f = some a) : i + 1 < lo.length ∧ ts_nl lo i = true ∧ f ((lo.set i (some v)).set (i + 1) none) = some a := by
  obtain ⟨h1, h2⟩ := ts_cond_i h
  simp only [Bool.and_eq_true] at h1
  exact ⟨Nat.le_of_ble_eq_true h1.1, h1.2, h2⟩
theorem ts_gf_i {σ : ts_S} {g b : Nat} {o : Option (Option (Nat × Nat))} {f : ts_V → Option ts_A} {a : ts_A} (h : ts_gf σ g b o f = some a) : (o = some none ∧ f (.inl (σ g 0 b)) = some a) ∨ ∃ dg c, o = some (some (dg, c)) ∧ f (.inr (.inr (.inl (g + dg, c)))) = some a := by
  unfold ts_gf at h
  split at h
  · exact Or.inl ⟨rfl, h⟩
  · exact Or.inr ⟨_, _, rfl, h⟩
  · cases h
theorem ts_pf_i {o : Option (Option (Nat × Nat))} {x : Option ts_A} {a : ts_A} (h : ts_pf o x = some a) : o = some none ∧ x = some a := by
  unfold ts_pf at h
  split at h
  · exact ⟨rfl, h⟩
  · cases h
theorem ts_lo_no {X : ts_X} {nL : Nat} {lo : ts_L} {ls : Array Slot} {i : Nat} (h : ts_lo X nL lo ls) : ts_lo X nL (lo.set i none) ls := by
  refine ⟨by rw [List.length_set]; exact h.1, h.2.1, h.2.2.1, fun j v hj => ?_⟩
  rw [List.getElem?_set] at hj
  split at hj
  · split at hj <;> cases hj
  · exact h.2.2.2 j v hj
theorem ts_lo_fg {X : ts_X} {nL : Nat} {ls : Array Slot} : ∀ (ps : List (Nat × Nat)) {lo : ts_L}, ts_lo X nL lo ls → ts_lo X nL (ts_fg lo ps) ls
  | [], _, h => h
  | (_, _) :: r, _, h => ts_lo_fg r (ts_lo_no h)
section TSK
variable {X : ts_X} {p : Program} {l : Launch} {e : Env} {R : Room} {s : State} {m : MethodId} {args : Array Value} {below : List Frame} {meth : Method} {c : Code} {cc : ByteArray} {nL : Nat} {own : String} {Ts : List Cond} {Q : State → Prop} {pc : Nat} {lo : ts_L} {st : List ts_V} {σ : ts_S} {k : ts_K} {res : ts_A}

theorem tk_iconst (C : ts_Cx X p s m args meth c cc nL own Ts) (hk : ∀ f, k f = some res → ts_VV X p l e R s m args below meth c nL Q f) {n : Int} {v : Int32} (hd : decode cc pc = .ok (.iconst n, 1)) (hv : Int32.ofInt n = v) (h : k (pc + 1, lo, .inl v :: st, σ) = some res) : ts_VV X p l e R s m args below meth c nL Q (pc, lo, st, σ) :=
  fun H locs ls hP hS hL => lv_iconst C.1 C.2.1 hd hv (hk _ h H locs ls hP hS hL)
theorem tk_bipush (C : ts_Cx X p s m args meth c cc nL own Ts) (hk : ∀ f, k f = some res → ts_VV X p l e R s m args below meth c nL Q f) {n : Int} {v : Int32} (hd : decode cc pc = .ok (.bipush n, 2)) (hv : (Int8.ofInt n).toInt32 = v) (h : k (pc + 2, lo, .inl v :: st, σ) = some res) : ts_VV X p l e R s m args below meth c nL Q (pc, lo, st, σ) :=
  fun H locs ls hP hS hL => lv_bipush C.1 C.2.1 hd hv (hk _ h H locs ls hP hS hL)
theorem tk_sipush (C : ts_Cx X p s m args meth c cc nL own Ts) (hk : ∀ f, k f = some res → ts_VV X p l e R s m args below meth c nL Q f) {n : Int} {v : Int32} (hd : decode cc pc = .ok (.sipush n, 3)) (hv : (Int16.ofInt n).toInt32 = v) (h : k (pc + 3, lo, .inl v :: st, σ) = some res) : ts_VV X p l e R s m args below meth c nL Q (pc, lo, st, σ) :=
  fun H locs ls hP hS hL => lv_sipush C.1 C.2.1 hd hv (hk _ h H locs ls hP hS hL)
theorem tk_lconst (C : ts_Cx X p s m args meth c cc nL own Ts) (hk : ∀ f, k f = some res → ts_VV X p l e R s m args below meth c nL Q f) {n : Fin 2} {v : Int64} (hd : decode cc pc = .ok (.lconst n, 1)) (hv : Int64.ofNat (n : Nat) = v) (h : k (pc + 1, lo, .inr (.inl v) :: st, σ) = some res) : ts_VV X p l e R s m args below meth c nL Q (pc, lo, st, σ) :=
  fun H locs ls hP hS hL => lv_lconst C.1 C.2.1 hd hv (hk _ h H locs ls hP hS hL)
theorem tk_ldc (C : ts_Cx X p s m args meth c cc nL own Ts) (hk : ∀ f, k f = some res → ts_VV X p l e R s m args below meth c nL Q f) {j : Nat} {v : Int32} (hd : decode cc pc = .ok (.ldc j, 2)) (hw : Cond.constant own j v ∈ ts_TB) (h : k (pc + 2, lo, .inl v :: st, σ) = some res) : ts_VV X p l e R s m args below meth c nL Q (pc, lo, st, σ) :=
  fun H locs ls hP hS hL => lv_ldc C.1 C.2.1 C.2.2.2.1 (C.2.2.2.2.1 _ (C.2.2.2.2.2.1 _ hw)) hd (hk _ h H locs ls hP hS hL)
theorem tk_ldc_w (C : ts_Cx X p s m args meth c cc nL own Ts) (hk : ∀ f, k f = some res → ts_VV X p l e R s m args below meth c nL Q f) {j : Nat} {v : Int32} (hd : decode cc pc = .ok (.ldc_w j, 3)) (hw : Cond.constant own j v ∈ ts_TB) (h : k (pc + 3, lo, .inl v :: st, σ) = some res) : ts_VV X p l e R s m args below meth c nL Q (pc, lo, st, σ) :=
  fun H locs ls hP hS hL => lv_ldcw C.1 C.2.1 C.2.2.2.1 (C.2.2.2.2.1 _ (C.2.2.2.2.2.1 _ hw)) hd (hk _ h H locs ls hP hS hL)
theorem tk_iload_n (C : ts_Cx X p s m args meth c cc nL own Ts) (hk : ∀ f, k f = some res → ts_VV X p l e R s m args below meth c nL Q f) {n : Fin 4} {j : Nat} (hd : decode cc pc = .ok (.iload_n n, 1)) (hj : (n : Nat) = j) (h : ts_li lo j (fun x => k (pc + 1, lo, .inl x :: st, σ)) = some res) : ts_VV X p l e R s m args below meth c nL Q (pc, lo, st, σ) := by
  obtain ⟨x, hx, h⟩ := ts_li_i h
  exact fun H locs ls hP hS hL => lv_iload_n C.1 C.2.1 hd hj (hL.2.2.2 _ _ hx) (hk _ h H locs ls hP hS hL)
theorem tk_iload (C : ts_Cx X p s m args meth c cc nL own Ts) (hk : ∀ f, k f = some res → ts_VV X p l e R s m args below meth c nL Q f) {j : Nat} (hd : decode cc pc = .ok (.iload j, 2)) (h : ts_li lo j (fun x => k (pc + 2, lo, .inl x :: st, σ)) = some res) : ts_VV X p l e R s m args below meth c nL Q (pc, lo, st, σ) := by
  obtain ⟨x, hx, h⟩ := ts_li_i h
  exact fun H locs ls hP hS hL => lv_iload C.1 C.2.1 hd (hL.2.2.2 _ _ hx) (hk _ h H locs ls hP hS hL)
theorem tk_lload_n (C : ts_Cx X p s m args meth c cc nL own Ts) (hk : ∀ f, k f = some res → ts_VV X p l e R s m args below meth c nL Q f) {n : Fin 4} {j : Nat} (hd : decode cc pc = .ok (.lload_n n, 1)) (hj : (n : Nat) = j) (h : ts_ll lo j (fun x => k (pc + 1, lo, .inr (.inl x) :: st, σ)) = some res) : ts_VV X p l e R s m args below meth c nL Q (pc, lo, st, σ) := by
  obtain ⟨x, hx, h⟩ := ts_ll_i h
  exact fun H locs ls hP hS hL => lv_lload_n C.1 C.2.1 hd hj (hL.2.2.2 _ _ hx) (hk _ h H locs ls hP hS hL)
theorem tk_lload (C : ts_Cx X p s m args meth c cc nL own Ts) (hk : ∀ f, k f = some res → ts_VV X p l e R s m args below meth c nL Q f) {j : Nat} (hd : decode cc pc = .ok (.lload j, 2)) (h : ts_ll lo j (fun x => k (pc + 2, lo, .inr (.inl x) :: st, σ)) = some res) : ts_VV X p l e R s m args below meth c nL Q (pc, lo, st, σ) := by
  obtain ⟨x, hx, h⟩ := ts_ll_i h
  exact fun H locs ls hP hS hL => lv_lload C.1 C.2.1 hd (hL.2.2.2 _ _ hx) (hk _ h H locs ls hP hS hL)
theorem tk_aload_n (C : ts_Cx X p s m args meth c cc nL own Ts) (hk : ∀ f, k f = some res → ts_VV X p l e R s m args below meth c nL Q f) {n : Fin 4} {j : Nat} (hd : decode cc pc = .ok (.aload_n n, 1)) (hj : (n : Nat) = j) (h : ts_lr lo j (fun x => k (pc + 1, lo, .inr (.inr x) :: st, σ)) = some res) : ts_VV X p l e R s m args below meth c nL Q (pc, lo, st, σ) := by
  obtain ⟨x, hx, h⟩ := ts_lr_i h
  rcases x with ⟨g, c⟩ | x
  · exact fun H locs ls hP hS hL => lv_aload_n C.1 C.2.1 hd hj (hL.2.2.2 _ _ hx) (hk _ h H locs ls hP hS hL)
  · exact fun H locs ls hP hS hL => lv_aload_n C.1 C.2.1 hd hj (hL.2.2.2 _ _ hx) (hk _ h H locs ls hP hS hL)
theorem tk_aload (C : ts_Cx X p s m args meth c cc nL own Ts) (hk : ∀ f, k f = some res → ts_VV X p l e R s m args below meth c nL Q f) {j : Nat} (hd : decode cc pc = .ok (.aload j, 2)) (h : ts_lr lo j (fun x => k (pc + 2, lo, .inr (.inr x) :: st, σ)) = some res) : ts_VV X p l e R s m args below meth c nL Q (pc, lo, st, σ) := by
  obtain ⟨x, hx, h⟩ := ts_lr_i h
  rcases x with ⟨g, c⟩ | x
  · exact fun H locs ls hP hS hL => lv_aload C.1 C.2.1 hd (hL.2.2.2 _ _ hx) (hk _ h H locs ls hP hS hL)
  · exact fun H locs ls hP hS hL => lv_aload C.1 C.2.1 hd (hL.2.2.2 _ _ hx) (hk _ h H locs ls hP hS hL)
theorem tk_istore_n (C : ts_Cx X p s m args meth c cc nL own Ts) (hk : ∀ f, k f = some res → ts_VV X p l e R s m args below meth c nL Q f) {n : Fin 4} {j : Nat} (hd : decode cc pc = .ok (.istore_n n, 1)) (hj : (n : Nat) = j) (h0 : ts_o1 st (fun x r => ts_sto lo j (.inl x) fun lo' => k (pc + 1, lo', r, σ)) = some res) : ts_VV X p l e R s m args below meth c nL Q (pc, lo, st, σ) := by
  obtain ⟨x, r, rfl, h⟩ := ts_o1_i h0
  obtain ⟨h1, h2, h⟩ := ts_sto_i h
  exact fun H locs ls hP hS hL => lv_istore_n C.1 C.2.1 hd hj (ts_lo_has hL) (hL.1 ▸ h1) rfl (fun ls' hl' => hk _ h H locs ls' hP hS (ts_lo_put hL h2 hl'))
theorem tk_istore (C : ts_Cx X p s m args meth c cc nL own Ts) (hk : ∀ f, k f = some res → ts_VV X p l e R s m args below meth c nL Q f) {j : Nat} (hd : decode cc pc = .ok (.istore j, 2)) (h0 : ts_o1 st (fun x r => ts_sto lo j (.inl x) fun lo' => k (pc + 2, lo', r, σ)) = some res) : ts_VV X p l e R s m args below meth c nL Q (pc, lo, st, σ) := by
  obtain ⟨x, r, rfl, h⟩ := ts_o1_i h0
  obtain ⟨h1, h2, h⟩ := ts_sto_i h
  exact fun H locs ls hP hS hL => lv_istore C.1 C.2.1 hd (ts_lo_has hL) (hL.1 ▸ h1) rfl (fun ls' hl' => hk _ h H locs ls' hP hS (ts_lo_put hL h2 hl'))
theorem tk_lstore_n (C : ts_Cx X p s m args meth c cc nL own Ts) (hk : ∀ f, k f = some res → ts_VV X p l e R s m args below meth c nL Q f) {n : Fin 4} {j : Nat} (hd : decode cc pc = .ok (.lstore_n n, 1)) (hj : (n : Nat) = j) (h0 : ts_l1 st (fun x r => ts_st2 lo j (.inr (.inl x)) fun lo' => k (pc + 1, lo', r, σ)) = some res) : ts_VV X p l e R s m args below meth c nL Q (pc, lo, st, σ) := by
  obtain ⟨x, r, rfl, h⟩ := ts_l1_i h0
  obtain ⟨h1, h2, h⟩ := ts_st2_i h
  exact fun H locs ls hP hS hL => lv_lstore_n C.1 C.2.1 hd hj (ts_lo_has hL) (hL.1 ▸ h1) rfl (fun ls' hl' => hk _ h H locs ls' hP hS (ts_lo_put2 hL h2 hl'))
theorem tk_lstore (C : ts_Cx X p s m args meth c cc nL own Ts) (hk : ∀ f, k f = some res → ts_VV X p l e R s m args below meth c nL Q f) {j : Nat} (hd : decode cc pc = .ok (.lstore j, 2)) (h0 : ts_l1 st (fun x r => ts_st2 lo j (.inr (.inl x)) fun lo' => k (pc + 2, lo', r, σ)) = some res) : ts_VV X p l e R s m args below meth c nL Q (pc, lo, st, σ) := by
  obtain ⟨x, r, rfl, h⟩ := ts_l1_i h0
  obtain ⟨h1, h2, h⟩ := ts_st2_i h
  exact fun H locs ls hP hS hL => lv_lstore C.1 C.2.1 hd (ts_lo_has hL) (hL.1 ▸ h1) rfl (fun ls' hl' => hk _ h H locs ls' hP hS (ts_lo_put2 hL h2 hl'))
theorem tk_iinc (C : ts_Cx X p s m args meth c cc nL own Ts) (hk : ∀ f, k f = some res → ts_VV X p l e R s m args below meth c nL Q f) {j : Nat} {n : Int} {v : Int32} (hd : decode cc pc = .ok (.iinc j n, 3)) (hv : Int32.ofInt n = v) (h : ts_li lo j (fun x => ts_sto lo j (.inl (x + v)) fun lo' => k (pc + 3, lo', st, σ)) = some res) : ts_VV X p l e R s m args below meth c nL Q (pc, lo, st, σ) := by
  obtain ⟨x, hx, h⟩ := ts_li_i h
  obtain ⟨h1, h2, h⟩ := ts_sto_i h
  intro H locs ls hP hS hL
  obtain ⟨q, hq⟩ := List.getElem?_of_mem (ts_prs_mem (X := X) hx)
  exact lv_iinc C.1 C.2.1 hd (ts_lo_has hL) hq (by rw [hv]) (hL.1 ▸ h1) rfl (fun ls' hl' => hk _ h H locs ls' hP hS (ts_lo_put hL h2 hl'))
theorem tk_iadd (C : ts_Cx X p s m args meth c cc nL own Ts) (hk : ∀ f, k f = some res → ts_VV X p l e R s m args below meth c nL Q f) (hd : decode cc pc = .ok (.iadd, 1)) (h0 : ts_o2 st (fun x y r => k (pc + 1, lo, .inl (x + y) :: r, σ)) = some res) : ts_VV X p l e R s m args below meth c nL Q (pc, lo, st, σ) := by
  obtain ⟨x, y, r, rfl, h⟩ := ts_o2_i h0
  exact fun H locs ls hP hS hL => lv_iadd C.1 C.2.1 hd (hk _ h H locs ls hP hS hL)
theorem tk_isub (C : ts_Cx X p s m args meth c cc nL own Ts) (hk : ∀ f, k f = some res → ts_VV X p l e R s m args below meth c nL Q f) (hd : decode cc pc = .ok (.isub, 1)) (h0 : ts_o2 st (fun x y r => k (pc + 1, lo, .inl (x - y) :: r, σ)) = some res) : ts_VV X p l e R s m args below meth c nL Q (pc, lo, st, σ) := by
  obtain ⟨x, y, r, rfl, h⟩ := ts_o2_i h0
  exact fun H locs ls hP hS hL => lv_isub C.1 C.2.1 hd (hk _ h H locs ls hP hS hL)
theorem tk_imul (C : ts_Cx X p s m args meth c cc nL own Ts) (hk : ∀ f, k f = some res → ts_VV X p l e R s m args below meth c nL Q f) (hd : decode cc pc = .ok (.imul, 1)) (h0 : ts_o2 st (fun x y r => k (pc + 1, lo, .inl (x * y) :: r, σ)) = some res) : ts_VV X p l e R s m args below meth c nL Q (pc, lo, st, σ) := by
  obtain ⟨x, y, r, rfl, h⟩ := ts_o2_i h0
  exact fun H locs ls hP hS hL => lv_imul C.1 C.2.1 hd (hk _ h H locs ls hP hS hL)
theorem tk_iand (C : ts_Cx X p s m args meth c cc nL own Ts) (hk : ∀ f, k f = some res → ts_VV X p l e R s m args below meth c nL Q f) (hd : decode cc pc = .ok (.iand, 1)) (h0 : ts_o2 st (fun x y r => k (pc + 1, lo, .inl (x &&& y) :: r, σ)) = some res) : ts_VV X p l e R s m args below meth c nL Q (pc, lo, st, σ) := by
  obtain ⟨x, y, r, rfl, h⟩ := ts_o2_i h0
  exact fun H locs ls hP hS hL => lv_iand C.1 C.2.1 hd (hk _ h H locs ls hP hS hL)
theorem tk_ior (C : ts_Cx X p s m args meth c cc nL own Ts) (hk : ∀ f, k f = some res → ts_VV X p l e R s m args below meth c nL Q f) (hd : decode cc pc = .ok (.ior, 1)) (h0 : ts_o2 st (fun x y r => k (pc + 1, lo, .inl (x ||| y) :: r, σ)) = some res) : ts_VV X p l e R s m args below meth c nL Q (pc, lo, st, σ) := by
  obtain ⟨x, y, r, rfl, h⟩ := ts_o2_i h0
  exact fun H locs ls hP hS hL => lv_ior C.1 C.2.1 hd (hk _ h H locs ls hP hS hL)
theorem tk_ixor (C : ts_Cx X p s m args meth c cc nL own Ts) (hk : ∀ f, k f = some res → ts_VV X p l e R s m args below meth c nL Q f) (hd : decode cc pc = .ok (.ixor, 1)) (h0 : ts_o2 st (fun x y r => k (pc + 1, lo, .inl (x ^^^ y) :: r, σ)) = some res) : ts_VV X p l e R s m args below meth c nL Q (pc, lo, st, σ) := by
  obtain ⟨x, y, r, rfl, h⟩ := ts_o2_i h0
  exact fun H locs ls hP hS hL => lv_ixor C.1 C.2.1 hd (hk _ h H locs ls hP hS hL)
theorem tk_ishl (C : ts_Cx X p s m args meth c cc nL own Ts) (hk : ∀ f, k f = some res → ts_VV X p l e R s m args below meth c nL Q f) (hd : decode cc pc = .ok (.ishl, 1)) (h0 : ts_o2 st (fun x y r => k (pc + 1, lo, .inl (x <<< (y &&& 31)) :: r, σ)) = some res) : ts_VV X p l e R s m args below meth c nL Q (pc, lo, st, σ) := by
  obtain ⟨x, y, r, rfl, h⟩ := ts_o2_i h0
  exact fun H locs ls hP hS hL => lv_ishl C.1 C.2.1 hd (hk _ h H locs ls hP hS hL)
theorem tk_ishr (C : ts_Cx X p s m args meth c cc nL own Ts) (hk : ∀ f, k f = some res → ts_VV X p l e R s m args below meth c nL Q f) (hd : decode cc pc = .ok (.ishr, 1)) (h0 : ts_o2 st (fun x y r => k (pc + 1, lo, .inl (x >>> (y &&& 31)) :: r, σ)) = some res) : ts_VV X p l e R s m args below meth c nL Q (pc, lo, st, σ) := by
  obtain ⟨x, y, r, rfl, h⟩ := ts_o2_i h0
  exact fun H locs ls hP hS hL => lv_ishr C.1 C.2.1 hd (hk _ h H locs ls hP hS hL)
theorem tk_iushr (C : ts_Cx X p s m args meth c cc nL own Ts) (hk : ∀ f, k f = some res → ts_VV X p l e R s m args below meth c nL Q f) (hd : decode cc pc = .ok (.iushr, 1)) (h0 : ts_o2 st (fun x y r => k (pc + 1, lo, .inl ((x.toUInt32 >>> (y.toUInt32 &&& Int32.toUInt32 31)).toInt32) :: r, σ)) = some res) : ts_VV X p l e R s m args below meth c nL Q (pc, lo, st, σ) := by
  obtain ⟨x, y, r, rfl, h⟩ := ts_o2_i h0
  exact fun H locs ls hP hS hL => lv_iushr C.1 C.2.1 hd rfl (hk _ h H locs ls hP hS hL)
theorem tk_idiv (C : ts_Cx X p s m args meth c cc nL own Ts) (hk : ∀ f, k f = some res → ts_VV X p l e R s m args below meth c nL Q f) (hd : decode cc pc = .ok (.idiv, 1)) (h0 : ts_o2 st (fun x y r => if y = 0 then none else k (pc + 1, lo, .inl (x / y) :: r, σ)) = some res) : ts_VV X p l e R s m args below meth c nL Q (pc, lo, st, σ) := by
  obtain ⟨x, y, r, rfl, h⟩ := ts_o2_i h0
  by_cases hy : y = 0
  · rw [if_pos hy] at h; cases h
  · rw [if_neg hy] at h
    exact fun H locs ls hP hS hL => lv_idiv C.1 C.2.1 hd hy (hk _ h H locs ls hP hS hL)
theorem tk_irem (C : ts_Cx X p s m args meth c cc nL own Ts) (hk : ∀ f, k f = some res → ts_VV X p l e R s m args below meth c nL Q f) (hd : decode cc pc = .ok (.irem, 1)) (h0 : ts_o2 st (fun x y r => if y = 0 then none else k (pc + 1, lo, .inl (x - x / y * y) :: r, σ)) = some res) : ts_VV X p l e R s m args below meth c nL Q (pc, lo, st, σ) := by
  obtain ⟨x, y, r, rfl, h⟩ := ts_o2_i h0
  by_cases hy : y = 0
  · rw [if_pos hy] at h; cases h
  · rw [if_neg hy] at h
    exact fun H locs ls hP hS hL => lv_irem C.1 C.2.1 hd hy (hk _ h H locs ls hP hS hL)
theorem tk_i2l (C : ts_Cx X p s m args meth c cc nL own Ts) (hk : ∀ f, k f = some res → ts_VV X p l e R s m args below meth c nL Q f) (hd : decode cc pc = .ok (.i2l, 1)) (h0 : ts_o1 st (fun x r => k (pc + 1, lo, .inr (.inl x.toInt64) :: r, σ)) = some res) : ts_VV X p l e R s m args below meth c nL Q (pc, lo, st, σ) := by
  obtain ⟨x, r, rfl, h⟩ := ts_o1_i h0
  exact fun H locs ls hP hS hL => lv_i2l C.1 C.2.1 hd rfl (hk _ h H locs ls hP hS hL)
theorem tk_i2b (C : ts_Cx X p s m args meth c cc nL own Ts) (hk : ∀ f, k f = some res → ts_VV X p l e R s m args below meth c nL Q f) (hd : decode cc pc = .ok (.i2b, 1)) (h0 : ts_o1 st (fun x r => k (pc + 1, lo, .inl x.toInt8.toInt32 :: r, σ)) = some res) : ts_VV X p l e R s m args below meth c nL Q (pc, lo, st, σ) := by
  obtain ⟨x, r, rfl, h⟩ := ts_o1_i h0
  exact fun H locs ls hP hS hL => lv_i2b C.1 C.2.1 hd rfl (hk _ h H locs ls hP hS hL)
theorem tk_i2s (C : ts_Cx X p s m args meth c cc nL own Ts) (hk : ∀ f, k f = some res → ts_VV X p l e R s m args below meth c nL Q f) (hd : decode cc pc = .ok (.i2s, 1)) (h0 : ts_o1 st (fun x r => k (pc + 1, lo, .inl x.toInt16.toInt32 :: r, σ)) = some res) : ts_VV X p l e R s m args below meth c nL Q (pc, lo, st, σ) := by
  obtain ⟨x, r, rfl, h⟩ := ts_o1_i h0
  exact fun H locs ls hP hS hL => lv_i2s C.1 C.2.1 hd rfl (hk _ h H locs ls hP hS hL)
theorem tk_ladd (C : ts_Cx X p s m args meth c cc nL own Ts) (hk : ∀ f, k f = some res → ts_VV X p l e R s m args below meth c nL Q f) (hd : decode cc pc = .ok (.ladd, 1)) (h0 : ts_l2 st (fun x y r => k (pc + 1, lo, .inr (.inl (x + y)) :: r, σ)) = some res) : ts_VV X p l e R s m args below meth c nL Q (pc, lo, st, σ) := by
  obtain ⟨x, y, r, rfl, h⟩ := ts_l2_i h0
  exact fun H locs ls hP hS hL => lv_ladd C.1 C.2.1 hd (hk _ h H locs ls hP hS hL)
theorem tk_lmul (C : ts_Cx X p s m args meth c cc nL own Ts) (hk : ∀ f, k f = some res → ts_VV X p l e R s m args below meth c nL Q f) (hd : decode cc pc = .ok (.lmul, 1)) (h0 : ts_l2 st (fun x y r => k (pc + 1, lo, .inr (.inl (x * y)) :: r, σ)) = some res) : ts_VV X p l e R s m args below meth c nL Q (pc, lo, st, σ) := by
  obtain ⟨x, y, r, rfl, h⟩ := ts_l2_i h0
  exact fun H locs ls hP hS hL => lv_lmul C.1 C.2.1 hd (hk _ h H locs ls hP hS hL)
theorem tk_lcmp (C : ts_Cx X p s m args meth c cc nL own Ts) (hk : ∀ f, k f = some res → ts_VV X p l e R s m args below meth c nL Q f) (hd : decode cc pc = .ok (.lcmp, 1)) (h0 : ts_l2 st (fun x y r => k (pc + 1, lo, .inl (lg_cmp x y) :: r, σ)) = some res) : ts_VV X p l e R s m args below meth c nL Q (pc, lo, st, σ) := by
  obtain ⟨x, y, r, rfl, h⟩ := ts_l2_i h0
  exact fun H locs ls hP hS hL => W.lcmp C.1 C.2.1 hd (hk _ h H locs ls hP hS hL)
theorem tk_dup (C : ts_Cx X p s m args meth c cc nL own Ts) (hk : ∀ f, k f = some res → ts_VV X p l e R s m args below meth c nL Q f) {v : ts_V} {r : List ts_V} (hs : st = v :: r) (hd : decode cc pc = .ok (.dup, 1)) (h : cond (ts_cat v == 1) (k (pc + 1, lo, v :: v :: r, σ)) none = some res) : ts_VV X p l e R s m args below meth c nL Q (pc, lo, st, σ) := by
  subst hs
  obtain ⟨h1, h⟩ := ts_cond_i h
  exact fun H locs ls hP hS hL => lv_dup C.1 C.2.1 hd (by rw [ts_tr_cat]; exact eq_of_beq h1) (hk _ h H locs ls hP hS hL)
theorem tk_pop (C : ts_Cx X p s m args meth c cc nL own Ts) (hk : ∀ f, k f = some res → ts_VV X p l e R s m args below meth c nL Q f) {v : ts_V} {r : List ts_V} (hs : st = v :: r) (hd : decode cc pc = .ok (.pop, 1)) (h : cond (ts_cat v == 1) (k (pc + 1, lo, r, σ)) none = some res) : ts_VV X p l e R s m args below meth c nL Q (pc, lo, st, σ) := by
  subst hs
  obtain ⟨h1, h⟩ := ts_cond_i h
  exact fun H locs ls hP hS hL => lv_pop C.1 C.2.1 hd (by rw [ts_tr_cat]; exact eq_of_beq h1) (hk _ h H locs ls hP hS hL)
theorem tk_dup2 (C : ts_Cx X p s m args meth c cc nL own Ts) (hk : ∀ f, k f = some res → ts_VV X p l e R s m args below meth c nL Q f) {v w : ts_V} {r : List ts_V} (hs : st = v :: w :: r) (hd : decode cc pc = .ok (.dup2, 1)) (h : cond (ts_cat v == 1 && ts_cat w == 1) (k (pc + 1, lo, v :: w :: v :: w :: r, σ)) none = some res) : ts_VV X p l e R s m args below meth c nL Q (pc, lo, st, σ) := by
  subst hs
  obtain ⟨h1, h⟩ := ts_cond_i h
  simp only [Bool.and_eq_true, beq_iff_eq] at h1
  exact fun H locs ls hP hS hL => lv_dup2_11 C.1 C.2.1 hd (by rw [ts_tr_cat]; exact h1.1) (by rw [ts_tr_cat]; exact h1.2) (hk _ h H locs ls hP hS hL)
theorem tk_ifCond_eq (C : ts_Cx X p s m args meth c cc nL own Ts) (hk : ∀ f, k f = some res → ts_VV X p l e R s m args below meth c nL Q f) {o : Int} {t : Nat} (hd : decode cc pc = .ok (.ifCond .eq o, 3)) (ht : (pc : Int) + o = (t : Int)) (h0 : ts_o1 st (fun x r => if x = 0 then k (t, lo, r, σ) else k (pc + 3, lo, r, σ)) = some res) : ts_VV X p l e R s m args below meth c nL Q (pc, lo, st, σ) := by
  obtain ⟨x, r, rfl, h⟩ := ts_o1_i h0
  exact fun H locs ls hP hS hL => lv_if_eq C.1 C.2.1 hd ht (fun q => hk (t, lo, r, σ) (by rw [if_pos q] at h; exact h) H locs ls hP hS hL) (fun q => hk (pc + 3, lo, r, σ) (by rw [if_neg q] at h; exact h) H locs ls hP hS hL)
theorem tk_if_icmp_eq (C : ts_Cx X p s m args meth c cc nL own Ts) (hk : ∀ f, k f = some res → ts_VV X p l e R s m args below meth c nL Q f) {o : Int} {t : Nat} (hd : decode cc pc = .ok (.if_icmp .eq o, 3)) (ht : (pc : Int) + o = (t : Int)) (h0 : ts_o2 st (fun x y r => if x = y then k (t, lo, r, σ) else k (pc + 3, lo, r, σ)) = some res) : ts_VV X p l e R s m args below meth c nL Q (pc, lo, st, σ) := by
  obtain ⟨x, y, r, rfl, h⟩ := ts_o2_i h0
  exact fun H locs ls hP hS hL => lv_icmp_eq C.1 C.2.1 hd ht (fun q => hk (t, lo, r, σ) (by rw [if_pos q] at h; exact h) H locs ls hP hS hL) (fun q => hk (pc + 3, lo, r, σ) (by rw [if_neg q] at h; exact h) H locs ls hP hS hL)
theorem tk_ifCond_ne (C : ts_Cx X p s m args meth c cc nL own Ts) (hk : ∀ f, k f = some res → ts_VV X p l e R s m args below meth c nL Q f) {o : Int} {t : Nat} (hd : decode cc pc = .ok (.ifCond .ne o, 3)) (ht : (pc : Int) + o = (t : Int)) (h0 : ts_o1 st (fun x r => if x = 0 then k (pc + 3, lo, r, σ) else k (t, lo, r, σ)) = some res) : ts_VV X p l e R s m args below meth c nL Q (pc, lo, st, σ) := by
  obtain ⟨x, r, rfl, h⟩ := ts_o1_i h0
  exact fun H locs ls hP hS hL => lv_if_ne C.1 C.2.1 hd ht (fun q => hk (t, lo, r, σ) (by rw [if_neg q] at h; exact h) H locs ls hP hS hL) (fun q => hk (pc + 3, lo, r, σ) (by rw [if_pos q] at h; exact h) H locs ls hP hS hL)
theorem tk_if_icmp_ne (C : ts_Cx X p s m args meth c cc nL own Ts) (hk : ∀ f, k f = some res → ts_VV X p l e R s m args below meth c nL Q f) {o : Int} {t : Nat} (hd : decode cc pc = .ok (.if_icmp .ne o, 3)) (ht : (pc : Int) + o = (t : Int)) (h0 : ts_o2 st (fun x y r => if x = y then k (pc + 3, lo, r, σ) else k (t, lo, r, σ)) = some res) : ts_VV X p l e R s m args below meth c nL Q (pc, lo, st, σ) := by
  obtain ⟨x, y, r, rfl, h⟩ := ts_o2_i h0
  exact fun H locs ls hP hS hL => lv_icmp_ne C.1 C.2.1 hd ht (fun q => hk (t, lo, r, σ) (by rw [if_neg q] at h; exact h) H locs ls hP hS hL) (fun q => hk (pc + 3, lo, r, σ) (by rw [if_pos q] at h; exact h) H locs ls hP hS hL)
theorem tk_ifCond_lt (C : ts_Cx X p s m args meth c cc nL own Ts) (hk : ∀ f, k f = some res → ts_VV X p l e R s m args below meth c nL Q f) {o : Int} {t : Nat} (hd : decode cc pc = .ok (.ifCond .lt o, 3)) (ht : (pc : Int) + o = (t : Int)) (h0 : ts_o1 st (fun x r => if x < 0 then k (t, lo, r, σ) else k (pc + 3, lo, r, σ)) = some res) : ts_VV X p l e R s m args below meth c nL Q (pc, lo, st, σ) := by
  obtain ⟨x, r, rfl, h⟩ := ts_o1_i h0
  exact fun H locs ls hP hS hL => lv_if_lt C.1 C.2.1 hd ht (fun q => hk (t, lo, r, σ) (by rw [if_pos q] at h; exact h) H locs ls hP hS hL) (fun q => hk (pc + 3, lo, r, σ) (by rw [if_neg q] at h; exact h) H locs ls hP hS hL)
theorem tk_if_icmp_lt (C : ts_Cx X p s m args meth c cc nL own Ts) (hk : ∀ f, k f = some res → ts_VV X p l e R s m args below meth c nL Q f) {o : Int} {t : Nat} (hd : decode cc pc = .ok (.if_icmp .lt o, 3)) (ht : (pc : Int) + o = (t : Int)) (h0 : ts_o2 st (fun x y r => if x < y then k (t, lo, r, σ) else k (pc + 3, lo, r, σ)) = some res) : ts_VV X p l e R s m args below meth c nL Q (pc, lo, st, σ) := by
  obtain ⟨x, y, r, rfl, h⟩ := ts_o2_i h0
  exact fun H locs ls hP hS hL => lv_icmp_lt C.1 C.2.1 hd ht (fun q => hk (t, lo, r, σ) (by rw [if_pos q] at h; exact h) H locs ls hP hS hL) (fun q => hk (pc + 3, lo, r, σ) (by rw [if_neg q] at h; exact h) H locs ls hP hS hL)
theorem tk_ifCond_ge (C : ts_Cx X p s m args meth c cc nL own Ts) (hk : ∀ f, k f = some res → ts_VV X p l e R s m args below meth c nL Q f) {o : Int} {t : Nat} (hd : decode cc pc = .ok (.ifCond .ge o, 3)) (ht : (pc : Int) + o = (t : Int)) (h0 : ts_o1 st (fun x r => if 0 ≤ x then k (t, lo, r, σ) else k (pc + 3, lo, r, σ)) = some res) : ts_VV X p l e R s m args below meth c nL Q (pc, lo, st, σ) := by
  obtain ⟨x, r, rfl, h⟩ := ts_o1_i h0
  exact fun H locs ls hP hS hL => lv_if_ge C.1 C.2.1 hd ht (fun q => hk (t, lo, r, σ) (by rw [if_pos q] at h; exact h) H locs ls hP hS hL) (fun q => hk (pc + 3, lo, r, σ) (by rw [if_neg q] at h; exact h) H locs ls hP hS hL)
theorem tk_if_icmp_ge (C : ts_Cx X p s m args meth c cc nL own Ts) (hk : ∀ f, k f = some res → ts_VV X p l e R s m args below meth c nL Q f) {o : Int} {t : Nat} (hd : decode cc pc = .ok (.if_icmp .ge o, 3)) (ht : (pc : Int) + o = (t : Int)) (h0 : ts_o2 st (fun x y r => if y ≤ x then k (t, lo, r, σ) else k (pc + 3, lo, r, σ)) = some res) : ts_VV X p l e R s m args below meth c nL Q (pc, lo, st, σ) := by
  obtain ⟨x, y, r, rfl, h⟩ := ts_o2_i h0
  exact fun H locs ls hP hS hL => lv_icmp_ge C.1 C.2.1 hd ht (fun q => hk (t, lo, r, σ) (by rw [if_pos q] at h; exact h) H locs ls hP hS hL) (fun q => hk (pc + 3, lo, r, σ) (by rw [if_neg q] at h; exact h) H locs ls hP hS hL)
theorem tk_ifCond_gt (C : ts_Cx X p s m args meth c cc nL own Ts) (hk : ∀ f, k f = some res → ts_VV X p l e R s m args below meth c nL Q f) {o : Int} {t : Nat} (hd : decode cc pc = .ok (.ifCond .gt o, 3)) (ht : (pc : Int) + o = (t : Int)) (h0 : ts_o1 st (fun x r => if 0 < x then k (t, lo, r, σ) else k (pc + 3, lo, r, σ)) = some res) : ts_VV X p l e R s m args below meth c nL Q (pc, lo, st, σ) := by
  obtain ⟨x, r, rfl, h⟩ := ts_o1_i h0
  exact fun H locs ls hP hS hL => lv_if_gt C.1 C.2.1 hd ht (fun q => hk (t, lo, r, σ) (by rw [if_pos q] at h; exact h) H locs ls hP hS hL) (fun q => hk (pc + 3, lo, r, σ) (by rw [if_neg q] at h; exact h) H locs ls hP hS hL)
theorem tk_if_icmp_gt (C : ts_Cx X p s m args meth c cc nL own Ts) (hk : ∀ f, k f = some res → ts_VV X p l e R s m args below meth c nL Q f) {o : Int} {t : Nat} (hd : decode cc pc = .ok (.if_icmp .gt o, 3)) (ht : (pc : Int) + o = (t : Int)) (h0 : ts_o2 st (fun x y r => if y < x then k (t, lo, r, σ) else k (pc + 3, lo, r, σ)) = some res) : ts_VV X p l e R s m args below meth c nL Q (pc, lo, st, σ) := by
  obtain ⟨x, y, r, rfl, h⟩ := ts_o2_i h0
  exact fun H locs ls hP hS hL => lv_icmp_gt C.1 C.2.1 hd ht (fun q => hk (t, lo, r, σ) (by rw [if_pos q] at h; exact h) H locs ls hP hS hL) (fun q => hk (pc + 3, lo, r, σ) (by rw [if_neg q] at h; exact h) H locs ls hP hS hL)
theorem tk_ifCond_le (C : ts_Cx X p s m args meth c cc nL own Ts) (hk : ∀ f, k f = some res → ts_VV X p l e R s m args below meth c nL Q f) {o : Int} {t : Nat} (hd : decode cc pc = .ok (.ifCond .le o, 3)) (ht : (pc : Int) + o = (t : Int)) (h0 : ts_o1 st (fun x r => if x ≤ 0 then k (t, lo, r, σ) else k (pc + 3, lo, r, σ)) = some res) : ts_VV X p l e R s m args below meth c nL Q (pc, lo, st, σ) := by
  obtain ⟨x, r, rfl, h⟩ := ts_o1_i h0
  exact fun H locs ls hP hS hL => lv_if_le C.1 C.2.1 hd ht (fun q => hk (t, lo, r, σ) (by rw [if_pos q] at h; exact h) H locs ls hP hS hL) (fun q => hk (pc + 3, lo, r, σ) (by rw [if_neg q] at h; exact h) H locs ls hP hS hL)
theorem tk_if_icmp_le (C : ts_Cx X p s m args meth c cc nL own Ts) (hk : ∀ f, k f = some res → ts_VV X p l e R s m args below meth c nL Q f) {o : Int} {t : Nat} (hd : decode cc pc = .ok (.if_icmp .le o, 3)) (ht : (pc : Int) + o = (t : Int)) (h0 : ts_o2 st (fun x y r => if x ≤ y then k (t, lo, r, σ) else k (pc + 3, lo, r, σ)) = some res) : ts_VV X p l e R s m args below meth c nL Q (pc, lo, st, σ) := by
  obtain ⟨x, y, r, rfl, h⟩ := ts_o2_i h0
  exact fun H locs ls hP hS hL => lv_icmp_le C.1 C.2.1 hd ht (fun q => hk (t, lo, r, σ) (by rw [if_pos q] at h; exact h) H locs ls hP hS hL) (fun q => hk (pc + 3, lo, r, σ) (by rw [if_neg q] at h; exact h) H locs ls hP hS hL)
theorem tk_goto (C : ts_Cx X p s m args meth c cc nL own Ts) (hk : ∀ f, k f = some res → ts_VV X p l e R s m args below meth c nL Q f) {o : Int} {t : Nat} (hd : decode cc pc = .ok (.goto o, 3)) (ht : (pc : Int) + o = (t : Int)) {ps : List (Nat × Nat)} (h : k (t, ts_fg lo ps, st, σ) = some res) : ts_VV X p l e R s m args below meth c nL Q (pc, lo, st, σ) :=
  fun H locs ls hP hS hL => lv_goto C.1 C.2.1 hd ht (hk _ h H locs ls hP hS (ts_lo_fg ps hL))
end TSK
