/-! fields, rows, switches, answers, calls: the steps -/
theorem ts_al_lt {g c : Nat} {x : Option Nat} (h : (ts_al (ts_kd g))[c]? = some x) : g < 7 := by
  rcases Nat.lt_or_ge g 7 with q | q
  · exact q
  · have e : ts_kd g = 9 := by
      unfold ts_kd
      split <;> omega
    rw [e] at h
    cases c <;> cases h
section TSH
variable {X : ts_X} {p : Program} {l : Launch} {e : Env} {R : Room} {s : State} {m : MethodId} {args : Array Value} {below : List Frame} {meth : Method} {c : Code} {cc : ByteArray} {nL : Nat} {own : String} {Ts : List Cond} {Q : State → Prop} {pc : Nat} {lo : ts_L} {st : List ts_V} {σ : ts_S} {k : ts_K} {res : ts_A}
theorem tk_getfield (C : ts_Cx X p s m args meth c cc nL own Ts) (hk : ∀ f, k f = some res → ts_VV X p l e R s m args below meth c nL Q f) {j a b : Nat} (hd : decode cc pc = .ok (.getfield j, 3)) (ha : a < 5) (hw : Cond.fieldLink own j (ts_TT a b).1 (ts_TT a b).2.1 (ts_TT a b).2.2.1 ∈ ts_TB) (h0 : ts_r1 st (fun g c r => cond (c == 0 && ts_kd g == a) (ts_gf σ g b ((ts_fl a)[b]?) fun v => k (pc + 3, lo, v :: r, σ)) none) = some res) : ts_VV X p l e R s m args below meth c nL Q (pc, lo, st, σ) := by
  obtain ⟨g, c', r, rfl, h⟩ := ts_r1_i h0
  obtain ⟨h1, h2⟩ := ts_cond_i h
  simp only [Bool.and_eq_true, beq_iff_eq] at h1
  obtain ⟨rfl, rfl⟩ := h1
  have hg := ts_kd_lt rfl ha
  intro H locs ls hP hS hL
  obtain ⟨q, hq, hqw⟩ := ts_at X σ (ts_cell_obj hg)
  rcases ts_gf_i h2 with ⟨ho, h3⟩ | ⟨dg, c2, ho, h3⟩
  · exact va_get (D := X.1) (ci := ts_kd g) (v := .int (σ g 0 b)) C.1 C.2.1 C.2.2.2.2.1 (fun w hw => C.2.2.2.2.2.1 w (ts_lw_in ha w hw)) C.2.2.2.1 C.2.2.2.2.2.2.1.1 hP q hqw (ts_vc_at ha) b (by rw [← ts_fl_len ha]; exact (List.getElem?_eq_some_iff.mp ho).1) (C.2.2.2.2.1 _ (C.2.2.2.2.2.1 _ hw)) (fun _ h9 => h9) (ts_fs_at X σ ho) hd (hk _ h3 H locs ls hP hS hL)
  · exact va_get (D := X.1) (ci := ts_kd g) (v := .ref (X.2.1 (g + dg) c2)) C.1 C.2.1 C.2.2.2.2.1 (fun w hw => C.2.2.2.2.2.1 w (ts_lw_in ha w hw)) C.2.2.2.1 C.2.2.2.2.2.2.1.1 hP q hqw (ts_vc_at ha) b (by rw [← ts_fl_len ha]; exact (List.getElem?_eq_some_iff.mp ho).1) (C.2.2.2.2.1 _ (C.2.2.2.2.2.1 _ hw)) (fun _ h9 => h9) (ts_fs_at X σ ho) hd (hk _ h3 H locs ls hP hS hL)
theorem tk_putfield (C : ts_Cx X p s m args meth c cc nL own Ts) (hk : ∀ f, k f = some res → ts_VV X p l e R s m args below meth c nL Q f) {j a b g c' : Nat} {x : Int32} {r : List ts_V} (hs : st = .inl x :: .inr (.inr (.inl (g, c'))) :: r) (hd : decode cc pc = .ok (.putfield j, 3)) (ha : a < 5) (hw : Cond.fieldLink own j (ts_TT a b).1 (ts_TT a b).2.1 (ts_TT a b).2.2.1 ∈ ts_TB) (hfin : (ts_TT a b).2.2.2 = false) (hty : ts_ty a b = .int ∨ (ts_ty a b = .boolean ∧ (x = 0 ∨ x = 1)))
    (h1 : (c' == 0 && ts_kd g == a) = true) (ho : (ts_fl a)[b]? = some none) (h : k (pc + 3, lo, r, ts_up σ g 0 b x) = some res) : ts_VV X p l e R s m args below meth c nL Q (pc, lo, st, σ) := by
  subst hs
  simp only [Bool.and_eq_true, beq_iff_eq] at h1
  obtain ⟨rfl, rfl⟩ := h1
  have hg := ts_kd_lt rfl ha
  have hb : b < ts_NN (ts_kd g) := by rw [← ts_fl_len ha]; exact (List.getElem?_eq_some_iff.mp ho).1
  have hn : narrow (ts_ty (ts_kd g) b) (.int x) = .int x ∧ fits (ts_ty (ts_kd g) b) (.int x) = true := by
    rcases hty with e | ⟨e, rfl | rfl⟩ <;> rw [e]
    · exact ⟨rfl, rfl⟩
    · exact ⟨by decide, by decide⟩
    · exact ⟨by decide, by decide⟩
  intro H locs ls hP hS hL
  obtain ⟨q, hq, hqw⟩ := ts_at X σ (ts_cell_obj hg)
  refine va_put (D := X.1) (ci := ts_kd g) (v := .int x) (ty := ts_ty (ts_kd g) b) C.1 C.2.1 C.2.2.2.2.1 (fun w hw => C.2.2.2.2.2.1 w (ts_lw_in ha w hw)) (ts_ty (ts_kd g)) (ts_ty_ok ha) (ts_nm_ok ha) C.2.2.2.1 C.2.2.2.2.2.2.1.1 hP (C.2.2.2.2.2.2.2.1 σ) hS q hqw (ts_vc_at ha) b hb (C.2.2.2.2.1 _ (C.2.2.2.2.2.1 _ hw)) (fun _ h9 => h9) hfin (ts_ty_ok ha b hb) hn.1 hn.2 (by simp only [ts_fs, List.length_map, List.length_zipIdx]; exact (List.getElem?_eq_some_iff.mp ho).1) hd (fun H1 locs1 hP1 _ hS1 => ?_)
  rw [ts_set X (σ' := ts_up σ g 0 b x) hq (by show Sum.inr (ts_kd g, ts_fs X (ts_up σ g 0 b x) g) = _; rw [ts_fs_set X σ x ho]) (ts_put_o σ g 0 _)] at hP1
  exact hk _ h H1 locs1 ls hP1 hS1 hL
theorem tk_iaload (C : ts_Cx X p s m args meth c cc nL own Ts) (hk : ∀ f, k f = some res → ts_VV X p l e R s m args below meth c nL Q f) (hd : decode cc pc = .ok (.iaload, 1)) (h0 : ts_r2 st (fun j g c r => ts_an (ts_kd g) c fun n => ts_ck j n (k (pc + 1, lo, .inl (σ g c j.toNatClampNeg) :: r, σ))) = some res) : ts_VV X p l e R s m args below meth c nL Q (pc, lo, st, σ) := by
  obtain ⟨j, g, c', r, rfl, h⟩ := ts_r2_i h0
  obtain ⟨n, hn, h⟩ := ts_an_i h
  obtain ⟨hin, h⟩ := ts_ck_i h
  obtain ⟨hc, hc0⟩ := ts_cell_row (ts_al_lt hn) hn
  intro H locs ls hP hS hL
  obtain ⟨q, hq, hqw⟩ := ts_at X σ hc
  rw [ts_en_row X σ hc0 hn] at hqw
  exact va_iald (D := X.1) C.1 C.2.1 C.2.2.2.2.2.2.1.1 hP q 0 hqw rfl hin hd (hk _ h H locs ls hP hS hL)
theorem tk_iastore (C : ts_Cx X p s m args meth c cc nL own Ts) (hk : ∀ f, k f = some res → ts_VV X p l e R s m args below meth c nL Q f) (hd : decode cc pc = .ok (.iastore, 1)) (h0 : ts_r3 st (fun x j g c r => ts_an (ts_kd g) c fun n => ts_ck j n (k (pc + 1, lo, r, ts_up σ g c j.toNatClampNeg x))) = some res) : ts_VV X p l e R s m args below meth c nL Q (pc, lo, st, σ) := by
  obtain ⟨x, j, g, c', r, rfl, h⟩ := ts_r3_i h0
  obtain ⟨n, hn, h⟩ := ts_an_i h
  obtain ⟨hin, h⟩ := ts_ck_i h
  obtain ⟨hc, hc0⟩ := ts_cell_row (ts_al_lt hn) hn
  intro H locs ls hP hS hL
  obtain ⟨q, hq, hqw⟩ := ts_at X σ hc
  rw [ts_en_row X σ hc0 hn] at hqw
  refine va_iast (D := X.1) C.1 C.2.1 C.2.2.2.2.2.2.1.1 hP (C.2.2.2.2.2.2.2.1 σ) hS q 0 hqw rfl hin hd (fun H1 locs1 hP1 _ hS1 => ?_)
  rw [ts_set X (σ' := ts_up σ g c' j.toNatClampNeg x) hq (by rw [ts_en_row X _ hc0 hn, ts_up, ts_put_s]) (ts_put_o σ g c' _)] at hP1
  exact hk _ h H1 locs1 ls hP1 hS1 hL
theorem tk_aaload (C : ts_Cx X p s m args meth c cc nL own Ts) (hk : ∀ f, k f = some res → ts_VV X p l e R s m args below meth c nL Q f) (hd : decode cc pc = .ok (.aaload, 1)) (h0 : ts_r2 st (fun j g c r => cond (g == 6 && c == 6) (ts_ck j 7 (k (pc + 1, lo, .inr (.inr (.inr j.toNatClampNeg)) :: r, σ))) none) = some res) : ts_VV X p l e R s m args below meth c nL Q (pc, lo, st, σ) := by
  obtain ⟨j, g, c', r, rfl, h⟩ := ts_r2_i h0
  obtain ⟨h1, h⟩ := ts_cond_i h
  simp only [Bool.and_eq_true, beq_iff_eq] at h1
  obtain ⟨rfl, rfl⟩ := h1
  obtain ⟨hin, h⟩ := ts_ck_i h
  intro H locs ls hP hS hL
  obtain ⟨q, hq, hqw⟩ := ts_at X σ (g := 6) (c := 6) (by decide)
  exact va_aldq (D := X.1) (C := "java/lang/String") C.1 C.2.1 C.2.2.2.2.2.2.1.1 hP q 1 hqw rfl hin hd (hk _ h H locs ls hP hS hL)
theorem tk_arraylength (C : ts_Cx X p s m args meth c cc nL own Ts) (hk : ∀ f, k f = some res → ts_VV X p l e R s m args below meth c nL Q f) (hd : decode cc pc = .ok (.arraylength, 1)) (h0 : ts_r1 st (fun g c r => match (ts_al (ts_kd g))[c]? with
    | some (some n) => k (pc + 1, lo, .inl (Int32.ofNat n) :: r, σ)
    | _ => cond (g == 6 && c == 6) (k (pc + 1, lo, .inl 7 :: r, σ)) none) = some res) : ts_VV X p l e R s m args below meth c nL Q (pc, lo, st, σ) := by
  obtain ⟨g, c', r, rfl, h⟩ := ts_r1_i h0
  intro H locs ls hP hS hL
  split at h
  · next n hn =>
    obtain ⟨hc, hc0⟩ := ts_cell_row (ts_al_lt hn) hn
    obtain ⟨q, hq, hqw⟩ := ts_at X σ hc
    rw [ts_en_row X σ hc0 hn] at hqw
    exact va_alen (D := X.1) C.1 C.2.1 C.2.2.2.2.2.2.1.1 hP q 0 hqw (ty := .int) rfl rfl hd (hk _ h H locs ls hP hS hL)
  · obtain ⟨h1, h⟩ := ts_cond_i h
    simp only [Bool.and_eq_true, beq_iff_eq] at h1
    obtain ⟨rfl, rfl⟩ := h1
    obtain ⟨q, hq, hqw⟩ := ts_at X σ (g := 6) (c := 6) (by decide)
    exact va_alen (D := X.1) C.1 C.2.1 C.2.2.2.2.2.2.1.1 hP q 1 hqw (ty := .object "java/lang/String") rfl rfl hd (hk _ h H locs ls hP hS hL)
/-! String constants -/
theorem tk_ldcS (C : ts_Cx X p s m args meth c cc nL own Ts) (hk : ∀ f, k f = some res → ts_VV X p l e R s m args below meth c nL Q f) {j i : Nat} {tx : String} (hd : decode cc pc = .ok (.ldc j, 2)) (hw : (own, j, tx, i) ∈ ts_sr) (h : k (pc + 2, lo, .inr (.inr (.inr i)) :: st, σ) = some res) : ts_VV X p l e R s m args below meth c nL Q (pc, lo, st, σ) :=
  fun H locs ls hP hS hL => va_ldcS C.1 C.2.1 C.2.2.2.1 (C.2.2.2.2.2.2.1.2.2.1 _ hw) hd (hk _ h H locs ls hP hS hL)
theorem ts_ldcwS {T : State} {locs : List Loc} {cells slots : Nat} (Z : Stand p l e R s m args below meth c T locs cells slots) (hexec : p.tables.exec = Jvm.exec) {own text : String} {index : Nat} {a : Addr} (hown : s.vm.findClass own = some m.cls)
    (hconst : (Cond.stringRef own index text).before args s = true) (hev : (Term.string own index).eval args s none [] s = some (.ref a)) {g : JFrame} (hg : g.method = m) (hdg : decode c.code g.pc = .ok (.ldc_w index, 3)) :
    ∀ target, Steps p.tables e below (T.setTop { g with pc := g.pc + 3, stack := .ref a :: g.stack }) target → Steps p.tables e below (T.setTop g) target := by
  obtain ⟨k, cf, i, a', hk, hcf, hcp, -, hr, hev'⟩ := Cond.stringRef_spec hown hconst
  cases hev.symm.trans hev'
  obtain ⟨k', hk', he⟩ := Z.warmed.alike.2.2 _ _ hk
  have hr' : k'.resolved[index]? = some (some (.string a)) := by
    rcases Z.warmed.entry hk hk' index with h | ⟨h, -⟩
    · rw [h]; exact hr
    · rw [hr] at h; cases h
  intro target hrest
  subst hg
  jvm_step Z.here [hexec, hdg, ldc_w.wp_string (e := e) (s := T) (f := g) Z.here.top hk' (by rw [he]; exact hcf) hcp hr']
  exact hrest
theorem tk_ldcwS (C : ts_Cx X p s m args meth c cc nL own Ts) (hk : ∀ f, k f = some res → ts_VV X p l e R s m args below meth c nL Q f) {j i : Nat} {tx : String} (hd : decode cc pc = .ok (.ldc_w j, 3)) (hw : (own, j, tx, i) ∈ ts_sr) (h : k (pc + 3, lo, .inr (.inr (.inr i)) :: st, σ) = some res) : ts_VV X p l e R s m args below meth c nL Q (pc, lo, st, σ) := by
  intro H locs ls hP hS hL T hT Z
  obtain ⟨t, a1, b1⟩ := hk _ h H locs ls hP hS hL T hT Z
  have hZ := C.2.2.2.2.2.2.1.2.2.1 _ hw
  exact ⟨t, ts_ldcwS Z C.1 C.2.2.2.1 (text := tx) (a := X.2.2.1 i) hZ.1 hZ.2 (g := F0 m pc ls (st.map (ts_tr X))) rfl (by rw [C.2.1]; exact hd) t a1, b1⟩
/-! switches -/
def ts_tok (pc : Nat) : Nat → List Int → List (Nat × Nat) → Bool
  | _, [], [] => true
  | v, o :: os, (u, t) :: ps => (v == u && decide ((pc : Int) + o = (t : Int))) && ts_tok pc (v + 1) os ps
  | _, _, _ => false
theorem ts_tok_i {pc d : Nat} {x : Int32} {f : Nat → Option ts_A} {a : ts_A} : ∀ (os : List Int) (ps : List (Nat × Nat)) (v : Nat), ts_tok pc v os ps = true → ts_sw x d f ps = some a →
    (∃ j o t, os[j]? = some o ∧ x = Int32.ofNat (v + j) ∧ (pc : Int) + o = ((t : Nat) : Int) ∧ f t = some a) ∨ ((∀ j, j < os.length → ¬ x = Int32.ofNat (v + j)) ∧ f d = some a)
  | [], [], v, _, h => Or.inr ⟨fun j hj => absurd hj (Nat.not_lt_zero j), h⟩
  | [], _ :: _, v, hk, h => by cases hk
  | _ :: _, [], v, hk, h => by cases hk
  | o :: os, (u, t) :: ps, v, hk, h => by
    simp only [ts_tok, Bool.and_eq_true, beq_iff_eq, decide_eq_true_eq] at hk
    obtain ⟨⟨rfl, ht⟩, hk⟩ := hk
    by_cases hx : x = Int32.ofNat v
    · rw [ts_sw, if_pos hx] at h
      exact Or.inl ⟨0, o, t, rfl, hx, ht, h⟩
    · rw [ts_sw, if_neg hx] at h
      rcases ts_tok_i os ps (v + 1) hk h with ⟨j, o', t', h1, h2, h3, h4⟩ | ⟨h1, h2⟩
      · exact Or.inl ⟨j + 1, o', t', h1, by rw [h2]; congr 1; omega, h3, h4⟩
      · refine Or.inr ⟨fun j hj => ?_, h2⟩
        cases j with
        | zero => exact hx
        | succ j =>
          have := h1 j (by simpa using hj)
          intro e
          exact this (by rw [e]; congr 1; omega)
theorem tk_tableswitch (C : ts_Cx X p s m args meth c cc nL own Ts) (hk : ∀ f, k f = some res → ts_VV X p l e R s m args below meth c nL Q f) {d lw hi : Int} {offs : Array Int} {len v t : Nat} {ps : List (Nat × Nat)} (hd : decode cc pc = .ok (.tableswitch d lw hi offs, len)) (hv : lw = (v : Int)) (hh : hi = lw + (offs.size : Int) - 1) (hs : v + offs.size < 2 ^ 31) (ht : (pc : Int) + d = (t : Int)) (hok : ts_tok pc v offs.toList ps = true)
    (h0 : ts_o1 st (fun x r => ts_sw x t (fun u => k (u, lo, r, σ)) ps) = some res) : ts_VV X p l e R s m args below meth c nL Q (pc, lo, st, σ) := by
  obtain ⟨x, r, rfl, h⟩ := ts_o1_i h0
  intro H locs ls hP hS hL
  rcases ts_tok_i offs.toList ps v hok h with ⟨j, o, u, h1, h2, h3, h4⟩ | ⟨h1, h2⟩
  · have hj : j < offs.size := by
      have := (List.getElem?_eq_some_iff.mp h1).1
      simpa using this
    have hx : x.toInt = (v : Int) + (j : Int) := by
      rw [h2]
      have := nI_toInt (n := v + j) (by omega)
      rw [nI] at this
      rw [this]; omega
    refine lv_tableIn C.1 C.2.1 hd (off := o) (tgt := u) (by omega) (by omega) ?_ h3 (hk _ h4 H locs ls hP hS hL)
    have e : (x.toInt - lw).toNat = j := by omega
    rw [e, ← Array.getElem?_toList]; exact h1
  · refine lv_tableOut C.1 C.2.1 hd (tgt := t) ?_ ht (hk _ h2 H locs ls hP hS hL)
    rcases Int.lt_or_le x.toInt lw with q | q
    · exact Or.inl q
    · rcases Int.lt_or_le hi x.toInt with q2 | q2
      · exact Or.inr q2
      · exfalso
        refine h1 (x.toInt - lw).toNat (by simp; omega) ?_
        apply Int32.toInt_inj.mp
        have := nI_toInt (n := v + (x.toInt - lw).toNat) (by omega)
        rw [nI] at this
        rw [this]; omega
def ts_lok (pc : Nat) : List (Int × Int) → List (Nat × Nat) → Bool
  | [], [] => true
  | (a, o) :: os, (u, t) :: ps => (decide (a = (u : Int)) && (decide (u < 2 ^ 31) && decide ((pc : Int) + o = (t : Int)))) && ts_lok pc os ps
  | _, _ => false
theorem ts_lok_i {pc d : Nat} {x : Int32} {f : Nat → Option ts_A} {a : ts_A} {dl : Int} (hd : (pc : Int) + dl = (d : Int)) : ∀ (os : List (Int × Int)) (ps : List (Nat × Nat)), ts_lok pc os ps = true → ts_sw x d f ps = some a →
    ∃ t : Nat, (pc : Int) + Op.lookupswitch.offset os dl x.toInt = (t : Int) ∧ f t = some a
  | [], [], _, h => ⟨d, hd, h⟩
  | [], _ :: _, hk, h => by cases hk
  | _ :: _, [], hk, h => by cases hk
  | (b, o) :: os, (u, t) :: ps, hk, h => by
    simp only [ts_lok, Bool.and_eq_true, decide_eq_true_eq] at hk
    obtain ⟨⟨rfl, hu, ht⟩, hk⟩ := hk
    have e : (Int32.ofNat u).toInt = (u : Int) := nI_toInt hu
    by_cases hx : x = Int32.ofNat u
    · rw [ts_sw, if_pos hx] at h
      refine ⟨t, ?_, h⟩
      rw [Op.lookupswitch.offset_cons, if_pos (by rw [hx, e])]
      exact ht
    · rw [ts_sw, if_neg hx] at h
      obtain ⟨t', h1, h2⟩ := ts_lok_i hd os ps hk h
      refine ⟨t', ?_, h2⟩
      rw [lv_osw hx e]
      exact h1
theorem tk_lookupswitch (C : ts_Cx X p s m args meth c cc nL own Ts) (hk : ∀ f, k f = some res → ts_VV X p l e R s m args below meth c nL Q f) {d : Int} {prs : Array (Int × Int)} {len t : Nat} {ps : List (Nat × Nat)} (hd : decode cc pc = .ok (.lookupswitch d prs, len)) (hp : (prs.toList.zip (prs.toList.drop 1)).all (fun (a, next) => a.1 < next.1) = true) (ht : (pc : Int) + d = (t : Int)) (hok : ts_lok pc prs.toList ps = true)
    (h0 : ts_o1 st (fun x r => ts_sw x t (fun u => k (u, lo, r, σ)) ps) = some res) : ts_VV X p l e R s m args below meth c nL Q (pc, lo, st, σ) := by
  obtain ⟨x, r, rfl, h⟩ := ts_o1_i h0
  obtain ⟨u, h1, h2⟩ := ts_lok_i ht _ _ hok h
  exact fun H locs ls hP hS hL => lv_lookup C.1 C.2.1 hd hp rfl h1 (hk _ h2 H locs ls hP hS hL)
end TSH
