/-! what the tables must say of an instruction; a method's contract out of its table -/
def ts_len (i : ts_I) : Nat := match i.1 with
  | .bipush _ => 2
  | .ldc _ => 2
  | .iload _ => 2
  | .lload _ => 2
  | .aload _ => 2
  | .istore _ => 2
  | .lstore _ => 2
  | .sipush _ => 3
  | .ldc_w _ => 3
  | .iinc _ _ => 3
  | .ifCond _ _ => 3
  | .if_icmp _ _ => 3
  | .goto _ => 3
  | .getfield _ => 3
  | .putfield _ => 3
  | .invokevirtual _ => 3
  | .invokestatic _ => 3
  | .tableswitch _ _ _ _ => i.2.2.1
  | .lookupswitch _ _ => i.2.2.1
  | _ => 1
def ts_okc (own : String) (j a b : Nat) (ps : List (Nat × Nat)) : Bool := match ps with
  | [(q, _)] => cond (b == 0) (ts_wx q (.constant own j (Int32.ofNat a))) (decide ((ts_sr[q]?).map (fun x => (x.1, x.2.1, x.2.2.2)) = some (own, j, a)))
  | _ => false
def ts_okf (own : String) (j a b : Nat) (ps : List (Nat × Nat)) : Bool := match ps with
  | [(q, _)] => decide (a < 5) && ts_wx q (.fieldLink own j (ts_TT a b).1 (ts_TT a b).2.1 (ts_TT a b).2.2.1)
  | _ => false
def ts_okp (a b : Nat) (ps : List (Nat × Nat)) : Bool := (!(ts_TT a b).2.2.2) && match ps with
  | [(_, 0)] => decide (ts_ty a b = .int)
  | _ => decide (ts_ty a b = .boolean)
def ts_okv (mi : Nat → ts_M) (cs : List Nat) (own : String) (j a b : Nat) (ps : List (Nat × Nat)) : Bool := match ps with
  | [(q, t), (_, _)] => cs.elem a && (decide ((mi a).2.2.2.2.2 = t) && (decide (¬ t = 9) && (decide (b = (mi a).2.2.2.2.1 + 1) && ts_wx q (.methodLink own j (mi a).1))))
  | _ => false
def ts_oks (d : Nat) (mi : Nat → ts_M) (cs : List Nat) (own : String) (j a b : Nat) (ps : List (Nat × Nat)) : Bool := match ps with
  | [(q, t), (_, _)] => cond (t == 7) (decide (0 < d) && ts_wx q (.methodLink own j arraycopyName)) (cs.elem a && (decide ((mi a).2.2.2.2.2 = 9) && (decide (b = (mi a).2.2.2.2.1) && cond (t == 6) (decide (own = RX1) && (decide (j = 64) && decide ((mi a).1 = yX4_isBelow))) (ts_wx q (.methodLink own j (mi a).1)))))
  | _ => false
def ts_okr (rt : Option FieldType) (a : Nat) : Bool := match rt with
  | some .int => a == 0
  | some .boolean => a == 1
  | _ => false
def ts_okb (d : Nat) (mi : Nat → ts_M) (cs : List Nat) (own : String) (rt : Option FieldType) (pc : Nat) (i : ts_I) : Bool := match i.1 with
  | .iconst n => decide (Int32.ofInt n = Int32.ofNat i.2.1)
  | .bipush n => decide ((Int8.ofInt n).toInt32 = Int32.ofNat i.2.1)
  | .sipush n => decide ((Int16.ofInt n).toInt32 = Int32.ofNat i.2.1)
  | .ldc j => ts_okc own j i.2.1 i.2.2.1 i.2.2.2
  | .ldc_w j => ts_okc own j i.2.1 i.2.2.1 i.2.2.2
  | .lconst n => decide (Int64.ofNat (n : Nat) = Int64.ofNat i.2.1)
  | .iload_n n => decide ((n : Nat) = i.2.1)
  | .lload_n n => decide ((n : Nat) = i.2.1)
  | .aload_n n => decide ((n : Nat) = i.2.1)
  | .istore_n n => decide ((n : Nat) = i.2.1)
  | .lstore_n n => decide ((n : Nat) = i.2.1)
  | .iload n => decide (n = i.2.1)
  | .lload n => decide (n = i.2.1)
  | .aload n => decide (n = i.2.1)
  | .istore n => decide (n = i.2.1)
  | .lstore n => decide (n = i.2.1)
  | .iinc j n => decide (j = i.2.1) && decide (Int32.ofInt n = Int32.ofNat i.2.2.1)
  | .ifCond _ o => decide ((pc : Int) + o = (i.2.1 : Int))
  | .if_icmp _ o => decide ((pc : Int) + o = (i.2.1 : Int))
  | .goto o => decide ((pc : Int) + o = (i.2.1 : Int))
  | .tableswitch d lw hi offs => decide (lw = (lw.toNat : Int)) && (decide (hi = lw + (offs.size : Int) - 1) && (decide (lw.toNat + offs.size < 2 ^ 31) && (decide ((pc : Int) + d = (i.2.1 : Int)) && ts_tok pc lw.toNat offs.toList i.2.2.2)))
  | .lookupswitch d prs => (prs.toList.zip (prs.toList.drop 1)).all (fun (a, next) => a.1 < next.1) && (decide ((pc : Int) + d = (i.2.1 : Int)) && ts_lok pc prs.toList i.2.2.2)
  | .getfield j => ts_okf own j i.2.1 i.2.2.1 i.2.2.2
  | .putfield j => ts_okf own j i.2.1 i.2.2.1 i.2.2.2 && ts_okp i.2.1 i.2.2.1 i.2.2.2
  | .invokevirtual j => ts_okv mi cs own j i.2.1 i.2.2.1 i.2.2.2
  | .invokestatic j => ts_oks d mi cs own j i.2.1 i.2.2.1 i.2.2.2
  | .ireturn => ts_okr rt i.2.1
  | .lreturn => decide (rt = some .long)
  | .areturn => decide (rt = some (.object "java/lang/String"))
  | .return_ => decide (rt = none)
  | _ => true
theorem ts_acw : Cond.native arraycopyName ∈ ts_TB ∧ Cond.static arraycopyName ∈ ts_TB ∧ Cond.initialized "java/lang/System" ∈ ts_TB :=
  ⟨ts_wx_in (q := 2137) (by decide +kernel), ts_wx_in (q := 2136) (by decide +kernel), ts_wx_in (q := 1008) (by decide +kernel)⟩
theorem ts_okc_s {own : String} {j a q : Nat} (h : decide ((ts_sr[q]?).map (fun x => (x.1, x.2.1, x.2.2.2)) = some (own, j, a)) = true) : ∃ tx, (own, j, tx, a) ∈ ts_sr := by
  have h := of_decide_eq_true h
  cases hq : ts_sr[q]? with
  | none => rw [hq] at h; cases h
  | some x =>
    rw [hq] at h
    obtain ⟨x1, x2, x3, x4⟩ := x
    have h := Option.some.inj h
    injection h with e1 h
    injection h with e2 e3
    dsimp only at e1 e2 e3
    subst e1; subst e2; subst e3
    exact ⟨x3, List.mem_of_getElem? hq⟩
section TSM
variable {X : ts_X} {p : Program} {l : Launch} {e : Env} {s : State} {m : MethodId} {args : Array Value} {below : List Frame} {meth : Method} {c : Code} {cc : ByteArray} {nL : Nat} {own : String} {Ts : List Cond} {pc : Nat} {lo : ts_L} {st : List ts_V} {σ : ts_S} {k : ts_K}
set_option maxHeartbeats 4000000 in
theorem ts_st_ok {d : Nat} (C : ts_Cx X p s m args meth c cc nL own Ts) {rt : Option FieldType} (hr : meth.sig.returnType = rt) {E : ts_E} {mi : Nat → ts_M} {cs : List Nat} (hE : ∀ z ∈ cs, ts_Cal X l d (mi z) (E z)) {r : Option ts_V} {σ' : ts_S} {i : ts_I} (hdc : decode cc pc = .ok (i.1, ts_len i)) (hok : ts_okb d mi cs own rt pc i = true)
    (hk : ∀ f, k f = some (r, σ') → ts_VV X p l e (ts_room d) s m args below meth c nL (MQ below (ts_Po X r σ') args s 0 0 X.2.2.2.2.2.2) f) (h : ts_st E i pc lo st σ k = some (r, σ')) : ts_VV X p l e (ts_room d) s m args below meth c nL (MQ below (ts_Po X r σ') args s 0 0 X.2.2.2.2.2.2) (pc, lo, st, σ) := by
  obtain ⟨i, a, b, ps⟩ := i
  cases i with
  | iconst n => exact tk_iconst C hk hdc (of_decide_eq_true hok) h
  | bipush n => exact tk_bipush C hk hdc (of_decide_eq_true hok) h
  | sipush n => exact tk_sipush C hk hdc (of_decide_eq_true hok) h
  | lconst n => exact tk_lconst C hk hdc (of_decide_eq_true hok) h
  | ldc j =>
    have hok : ts_okc own j a b ps = true := hok
    have hh : cond (b == 0) (k (pc + 2, lo, .inl (Int32.ofNat a) :: st, σ)) (k (pc + 2, lo, .inr (.inr (.inr a)) :: st, σ)) = some (r, σ') := h
    unfold ts_okc at hok
    split at hok
    · cases hb : (b == 0) with
      | true => rw [hb] at hok hh; exact tk_ldc C hk hdc (ts_wx_in hok) hh
      | false =>
        rw [hb] at hok hh
        obtain ⟨tx, hx⟩ := ts_okc_s hok
        exact tk_ldcS C hk hdc hx hh
    · cases hok
  | ldc_w j =>
    have hok : ts_okc own j a b ps = true := hok
    have hh : cond (b == 0) (k (pc + 3, lo, .inl (Int32.ofNat a) :: st, σ)) (k (pc + 3, lo, .inr (.inr (.inr a)) :: st, σ)) = some (r, σ') := h
    unfold ts_okc at hok
    split at hok
    · cases hb : (b == 0) with
      | true => rw [hb] at hok hh; exact tk_ldc_w C hk hdc (ts_wx_in hok) hh
      | false =>
        rw [hb] at hok hh
        obtain ⟨tx, hx⟩ := ts_okc_s hok
        exact tk_ldcwS C hk hdc hx hh
    · cases hok
  | iload_n n => exact tk_iload_n C hk hdc (of_decide_eq_true hok) h
  | lload_n n => exact tk_lload_n C hk hdc (of_decide_eq_true hok) h
  | aload_n n => exact tk_aload_n C hk hdc (of_decide_eq_true hok) h
  | istore_n n => exact tk_istore_n C hk hdc (of_decide_eq_true hok) h
  | lstore_n n => exact tk_lstore_n C hk hdc (of_decide_eq_true hok) h
  | iload n => cases (of_decide_eq_true hok : n = a); exact tk_iload C hk hdc h
  | lload n => cases (of_decide_eq_true hok : n = a); exact tk_lload C hk hdc h
  | aload n => cases (of_decide_eq_true hok : n = a); exact tk_aload C hk hdc h
  | istore n => cases (of_decide_eq_true hok : n = a); exact tk_istore C hk hdc h
  | lstore n => cases (of_decide_eq_true hok : n = a); exact tk_lstore C hk hdc h
  | iinc j n =>
    have hok : (decide (j = a) && decide (Int32.ofInt n = Int32.ofNat b)) = true := hok
    simp only [Bool.and_eq_true, decide_eq_true_eq] at hok
    obtain ⟨rfl, h2⟩ := hok
    exact tk_iinc C hk hdc h2 h
  | iadd => exact tk_iadd C hk hdc h
  | isub => exact tk_isub C hk hdc h
  | imul => exact tk_imul C hk hdc h
  | iand => exact tk_iand C hk hdc h
  | ior => exact tk_ior C hk hdc h
  | ixor => exact tk_ixor C hk hdc h
  | ishl => exact tk_ishl C hk hdc h
  | ishr => exact tk_ishr C hk hdc h
  | iushr => exact tk_iushr C hk hdc h
  | idiv => exact tk_idiv C hk hdc h
  | irem => exact tk_irem C hk hdc h
  | i2l => exact tk_i2l C hk hdc h
  | i2b => exact tk_i2b C hk hdc h
  | i2s => exact tk_i2s C hk hdc h
  | ladd => exact tk_ladd C hk hdc h
  | lmul => exact tk_lmul C hk hdc h
  | lcmp => exact tk_lcmp C hk hdc h
  | dup =>
    cases st with
    | nil => cases (show (none : Option ts_A) = some _ from h)
    | cons v r => exact tk_dup C hk rfl hdc h
  | pop =>
    cases st with
    | nil => cases (show (none : Option ts_A) = some _ from h)
    | cons v r => exact tk_pop C hk rfl hdc h
  | dup2 =>
    match st, h with
    | [], h => cases (show (none : Option ts_A) = some _ from h)
    | [_], h => cases (show (none : Option ts_A) = some _ from h)
    | v :: w :: r, h => exact tk_dup2 C hk rfl hdc h
  | ifCond q o =>
    cases q with
    | eq => exact tk_ifCond_eq C hk hdc (of_decide_eq_true hok) h
    | ne => exact tk_ifCond_ne C hk hdc (of_decide_eq_true hok) h
    | lt => exact tk_ifCond_lt C hk hdc (of_decide_eq_true hok) h
    | ge => exact tk_ifCond_ge C hk hdc (of_decide_eq_true hok) h
    | gt => exact tk_ifCond_gt C hk hdc (of_decide_eq_true hok) h
    | le => exact tk_ifCond_le C hk hdc (of_decide_eq_true hok) h
  | if_icmp q o =>
    cases q with
    | eq => exact tk_if_icmp_eq C hk hdc (of_decide_eq_true hok) h
    | ne => exact tk_if_icmp_ne C hk hdc (of_decide_eq_true hok) h
    | lt => exact tk_if_icmp_lt C hk hdc (of_decide_eq_true hok) h
    | ge => exact tk_if_icmp_ge C hk hdc (of_decide_eq_true hok) h
    | gt => exact tk_if_icmp_gt C hk hdc (of_decide_eq_true hok) h
    | le => exact tk_if_icmp_le C hk hdc (of_decide_eq_true hok) h
  | goto o => exact tk_goto C hk hdc (of_decide_eq_true hok) h
  | tableswitch dl lw hi offs =>
    have hok : (decide (lw = (lw.toNat : Int)) && (decide (hi = lw + (offs.size : Int) - 1) && (decide (lw.toNat + offs.size < 2 ^ 31) && (decide ((pc : Int) + dl = (a : Int)) && ts_tok pc lw.toNat offs.toList ps)))) = true := hok
    simp only [Bool.and_eq_true, decide_eq_true_eq] at hok
    exact tk_tableswitch C hk hdc hok.1 hok.2.1 hok.2.2.1 hok.2.2.2.1 hok.2.2.2.2 h
  | lookupswitch dl prs =>
    have hok : ((prs.toList.zip (prs.toList.drop 1)).all (fun (a, next) => a.1 < next.1) && (decide ((pc : Int) + dl = (a : Int)) && ts_lok pc prs.toList ps)) = true := hok
    rw [Bool.and_eq_true, Bool.and_eq_true] at hok
    exact tk_lookupswitch C hk hdc hok.1 (of_decide_eq_true hok.2.1) hok.2.2 h
  | getfield j =>
    have hok : ts_okf own j a b ps = true := hok
    unfold ts_okf at hok
    split at hok
    · rw [Bool.and_eq_true] at hok
      exact tk_getfield C hk hdc (of_decide_eq_true hok.1) (ts_wx_in hok.2) h
    · cases hok
  | putfield j =>
    have hok : (ts_okf own j a b ps && ts_okp a b ps) = true := hok
    rw [Bool.and_eq_true] at hok
    obtain ⟨h1, h2⟩ := hok
    unfold ts_okf at h1
    split at h1
    · next q z =>
      rw [Bool.and_eq_true] at h1
      have h2 : ((!(ts_TT a b).2.2.2) = true) ∧ (match z with | 0 => decide (ts_ty a b = .int) | _ => decide (ts_ty a b = .boolean)) = true := by
        cases z with
        | zero => exact Bool.and_eq_true_iff.mp h2
        | succ z => exact Bool.and_eq_true_iff.mp h2
      have hf : (ts_TT a b).2.2.2 = false := by simpa using h2.1
      match st, h with
      | [], h => cases (show (none : Option ts_A) = some _ from h)
      | [.inl _], h => cases (show (none : Option ts_A) = some _ from h)
      | .inr _ :: _, h => cases (show (none : Option ts_A) = some _ from h)
      | .inl _ :: .inl _ :: _, h => cases (show (none : Option ts_A) = some _ from h)
      | .inl _ :: .inr (.inl _) :: _, h => cases (show (none : Option ts_A) = some _ from h)
      | .inl _ :: .inr (.inr (.inr _)) :: _, h => cases (show (none : Option ts_A) = some _ from h)
      | .inl x :: .inr (.inr (.inl (g, c'))) :: r', h =>
        obtain ⟨h3, h⟩ := ts_cond_i h
        obtain ⟨h4, h⟩ := ts_pf_i h
        cases z with
        | zero => exact tk_putfield C hk rfl hdc (of_decide_eq_true h1.1) (ts_wx_in h1.2) hf (Or.inl (of_decide_eq_true h2.2)) h3 h4 h
        | succ z =>
          have h : (if x = 0 ∨ x = 1 then k (pc + 3, lo, r', ts_up σ g 0 b x) else none) = some (r, σ') := h
          by_cases hx : x = 0 ∨ x = 1
          · rw [if_pos hx] at h
            exact tk_putfield C hk rfl hdc (of_decide_eq_true h1.1) (ts_wx_in h1.2) hf (Or.inr ⟨of_decide_eq_true h2.2, hx⟩) h3 h4 h
          · rw [if_neg hx] at h; cases h
    · cases h1
  | iaload => exact tk_iaload C hk hdc h
  | iastore => exact tk_iastore C hk hdc h
  | aaload => exact tk_aaload C hk hdc h
  | arraylength => exact tk_arraylength C hk hdc h
  | invokevirtual j =>
    have hok : ts_okv mi cs own j a b ps = true := hok
    unfold ts_okv at hok
    split at hok
    · next q t u _ _ =>
      simp only [Bool.and_eq_true, decide_eq_true_eq] at hok
      obtain ⟨h1, h2, h3, h4, h5⟩ := hok
      obtain ⟨h6, h⟩ := ts_cond_i h
      simp only [Bool.and_eq_true] at h6
      subst h2
      exact tk_virt C hk (hE a (List.elem_iff.mp h1)) h3 h4 (ts_wx_in h5) hdc (Nat.le_of_ble_eq_true h6.1) (Nat.le_of_ble_eq_true h6.2.1) h6.2.2 (ts_bd_i h)
    · cases hok
  | invokestatic j =>
    have hok : ts_oks d mi cs own j a b ps = true := hok
    unfold ts_oks at hok
    split at hok
    · next q t u _ _ =>
      have h : cond (t == 7) (ts_ac st σ fun r σ' => cond (Nat.ble (ts_sum r) 8) (k (pc + 3, lo, r, σ')) none)
        (cond (Nat.ble b st.length && Nat.ble (ts_sum (st.drop b)) 8) (ts_bd u (E a (st.take b).reverse σ) (st.drop b) fun r σ' => k (pc + 3, lo, r, σ')) none) = some (r, σ') := h
      cases ht : (t == 7) with
      | true =>
        rw [ht] at hok h
        have hok : (decide (0 < d) && ts_wx q (.methodLink own j arraycopyName)) = true := hok
        rw [Bool.and_eq_true] at hok
        exact tk_copy (of_decide_eq_true hok.1) C hk (ts_wx_in hok.2) ts_acw hdc h
      | false =>
        rw [ht] at hok h
        have hok : (cs.elem a && (decide ((mi a).2.2.2.2.2 = 9) && (decide (b = (mi a).2.2.2.2.1) && cond (t == 6) (decide (own = RX1) && (decide (j = 64) && decide ((mi a).1 = yX4_isBelow))) (ts_wx q (.methodLink own j (mi a).1))))) = true := hok
        rw [Bool.and_eq_true, Bool.and_eq_true, Bool.and_eq_true] at hok
        obtain ⟨h1, h2, h3, h4⟩ := hok
        obtain ⟨h6, h⟩ := ts_cond_i h
        rw [Bool.and_eq_true] at h6
        refine tk_stat C hk (hE a (List.elem_iff.mp h1)) (of_decide_eq_true h2) (of_decide_eq_true h3) ?_ hdc (Nat.le_of_ble_eq_true h6.1) (Nat.le_of_ble_eq_true h6.2) (ts_bd_i h)
        cases h7 : (t == 6) with
        | true =>
          rw [h7] at h4
          simp only [cond_true, Bool.and_eq_true, decide_eq_true_eq] at h4
          exact Or.inr h4
        | false =>
          rw [h7] at h4
          exact Or.inl (ts_wx_in h4)
    · cases hok
  | ireturn =>
    have hok : ts_okr rt a = true := hok
    match st, h with
    | [], h => cases (show (none : Option ts_A) = some _ from h)
    | .inr _ :: _, h => cases (show (none : Option ts_A) = some _ from h)
    | .inl _ :: _ :: _, h => cases (show (none : Option ts_A) = some _ from h)
    | [.inl x], h =>
      have h : cond (a == 0) (some (some (.inl x), σ)) (if x = 0 ∨ x = 1 then some (some (.inl x), σ) else none) = some (r, σ') := h
      unfold ts_okr at hok
      split at hok
      · rw [hok] at h
        cases h
        exact tk_ireturn C hr hdc
      · have ha : (a == 0) = false := by rw [eq_of_beq hok]; rfl
        rw [ha] at h
        have h : (if x = 0 ∨ x = 1 then some (some (.inl x), σ) else none) = some (r, σ') := h
        by_cases hx : x = 0 ∨ x = 1
        · rw [if_pos hx] at h
          cases h
          exact tk_zreturn C hr hx hdc
        · rw [if_neg hx] at h; cases h
      · cases hok
  | lreturn =>
    match st, h with
    | [], h => cases (show (none : Option ts_A) = some _ from h)
    | .inl _ :: _, h => cases (show (none : Option ts_A) = some _ from h)
    | .inr (.inr _) :: _, h => cases (show (none : Option ts_A) = some _ from h)
    | .inr (.inl _) :: _ :: _, h => cases (show (none : Option ts_A) = some _ from h)
    | [.inr (.inl x)], h =>
      cases (show some (some (.inr (.inl x)), σ) = some (r, σ') from h)
      exact tk_lreturn C (hr.trans (of_decide_eq_true hok)) hdc
  | areturn =>
    match st, h with
    | [], h => cases (show (none : Option ts_A) = some _ from h)
    | .inl _ :: _, h => cases (show (none : Option ts_A) = some _ from h)
    | .inr (.inl _) :: _, h => cases (show (none : Option ts_A) = some _ from h)
    | .inr (.inr _) :: _ :: _, h => cases (show (none : Option ts_A) = some _ from h)
    | [.inr (.inr x)], h =>
      cases (show some (some (.inr (.inr x)), σ) = some (r, σ') from h)
      exact tk_areturn C (hr.trans (of_decide_eq_true hok)) hdc
  | return_ =>
    match st, h with
    | _ :: _, h => cases (show (none : Option ts_A) = some _ from h)
    | [], h =>
      cases (show some (none, σ) = some (r, σ') from h)
      exact tk_return C (hr.trans (of_decide_eq_true hok)) hdc
  | _ => cases (show (none : Option ts_A) = some _ from h)
/-- a method's whole table -/
def ts_tbo (d : Nat) (mi : Nat → ts_M) (cs : List Nat) (own : String) (rt : Option FieldType) (cc : ByteArray) : Nat → List (Option ts_I) → Bool
  | _, [] => true
  | pc, none :: r => ts_tbo d mi cs own rt cc (pc + 1) r
  | pc, some i :: r => (decide (decode cc pc = .ok (i.1, ts_len i)) && ts_okb d mi cs own rt pc i) && ts_tbo d mi cs own rt cc (pc + 1) r
theorem ts_tbo_i {d : Nat} {mi : Nat → ts_M} {cs : List Nat} {own : String} {rt : Option FieldType} {cc : ByteArray} {i : ts_I} : ∀ (tb : List (Option ts_I)) (n pc : Nat), ts_tbo d mi cs own rt cc n tb = true → tb[pc]? = some (some i) → decode cc (n + pc) = .ok (i.1, ts_len i) ∧ ts_okb d mi cs own rt (n + pc) i = true
  | [], n, pc, _, h => by cases h
  | none :: r, n, pc, hk, h => by
    cases pc with
    | zero => cases h
    | succ pc =>
      have := ts_tbo_i r (n + 1) pc hk h
      rw [show n + (pc + 1) = n + 1 + pc by omega]
      exact this
  | some j :: r, n, pc, hk, h => by
    simp only [ts_tbo, Bool.and_eq_true, decide_eq_true_eq] at hk
    cases pc with
    | zero => cases h; exact hk.1
    | succ pc =>
      have := ts_tbo_i r (n + 1) pc hk.2 h
      rw [show n + (pc + 1) = n + 1 + pc by omega]
      exact this
theorem ts_run_ok {d : Nat} (C : ts_Cx X p s m args meth c cc nL own Ts) {rt : Option FieldType} (hr : meth.sig.returnType = rt) {E : ts_E} {mi : Nat → ts_M} {cs : List Nat} (hE : ∀ z ∈ cs, ts_Cal X l d (mi z) (E z)) {r : Option ts_V} {σ' : ts_S} {tb : List (Option ts_I)} (htb : ts_tbo d mi cs own rt cc 0 tb = true) : ∀ (n : Nat) (f : ts_C), ts_run E tb n f = some (r, σ') → ts_VV X p l e (ts_room d) s m args below meth c nL (MQ below (ts_Po X r σ') args s 0 0 X.2.2.2.2.2.2) f
  | 0, f, h => by cases h
  | n + 1, f, h => by
    have h : ts_stp E tb f (ts_run E tb n) = some (r, σ') := h
    unfold ts_stp at h
    split at h
    · next i hi =>
      obtain ⟨h1, h2⟩ := ts_tbo_i tb 0 f.1 htb hi
      rw [Nat.zero_add] at h1 h2
      obtain ⟨pc, lo, st, σ⟩ := f
      exact ts_st_ok C hr hE h1 h2 (ts_run_ok C hr hE htb n) h
    · cases h
end TSM
def ts_aok (as : List ts_V) (n : Nat) : Bool := as.all (fun v => ts_cat v == 1) && Nat.ble as.length n
/-- the pure function of a method: its table's limit from its entry -/
noncomputable def ts_Fn (E : ts_E) (tb : List (Option ts_I)) (n : Nat) (as : List ts_V) (σ : ts_S) : Option ts_A := cond (ts_aok as n) (ts_R E tb (0, ts_ent as n, [], σ)) none
theorem ts_sl_len (X : ts_X) : ∀ as : List ts_V, as.all (fun v => ts_cat v == 1) = true → (lg_sl (as.map (ts_tr X))).length = as.length
  | [], _ => rfl
  | v :: as, h => by
    simp only [List.all_cons, Bool.and_eq_true, beq_iff_eq] at h
    have ih := ts_sl_len X as h.2
    unfold lg_sl at ih ⊢
    rw [List.map_cons, List.flatMap_cons, List.length_append, ih]
    have hc : ¬ (ts_tr X v).category = 2 := by rw [ts_tr_cat, h.1]; decide
    rw [if_neg hc]
    simp; omega
theorem ts_args_mem (X : ts_X) : ∀ (as : List ts_V) (i j : Nat) (v : ts_V), as.all (fun v => ts_cat v == 1) = true → as[j]? = some v → (i + j, ts_tr X v) ∈ lv_args i (as.map (ts_tr X))
  | [], i, j, v, _, h => by cases h
  | w :: as, i, j, v, hc, h => by
    simp only [List.all_cons, Bool.and_eq_true, beq_iff_eq] at hc
    have hc1 : ¬ (ts_tr X w).category = 2 := by rw [ts_tr_cat, hc.1]; decide
    show _ ∈ (i, ts_tr X w) :: lv_args (if (ts_tr X w).category = 2 then i + 2 else i + 1) (as.map (ts_tr X))
    rw [if_neg hc1]
    cases j with
    | zero => cases h; exact List.mem_cons_self
    | succ j =>
      refine List.mem_cons_of_mem _ ?_
      have := ts_args_mem X as (i + 1) j v hc.2 h
      rw [show i + (j + 1) = i + 1 + j by omega]
      exact this
/-- a method out of its walk: its class plainly named, or no native row for it -/
theorem ts_ofW {l : Launch} {y : MethodName} {ws ws' : List Cond} {rm : Room} {Pc : Array Value → State → Prop} {Qc : Array Value → State → Outcome → State → Prop} {mc ms : Nat} {free : Addr → Prop} {cc : ByteArray} {maxL : Nat} {ret : Option FieldType}
    (hy : plainFor y = true) (hw : ws = Cond.code y cc maxL ret :: ws')
    (body : ∀ p e s m args below meth c s₁, BodyLoose p l y (headSpec ws rm) cc maxL ret e s m args below meth c s₁ → c.maxLocals = maxL → Pc args s →
      W p l e (headSpec ws rm).room s m args below meth c s.heap [] 0 0 (MQ below Qc args s mc ms free) (entryFrame m args maxL)) : Met l y ws rm Pc Qc mc ms free := by
  refine MetFree.of_bodySF (code := cc) (maxLocals := maxL) (ret := ret) hy ?_ ?_
  · intro args s m h hn
    obtain ⟨meth, c, h1, h2, h3, h4, h5, h6, -, -⟩ := Cond.code_spec hn (atoms_spec (ws := ws) h _ (by rw [hw]; exact List.mem_cons_self))
    exact ⟨meth, c, h1, h2, h3, h4, h5, h6⟩
  · intro p e s m args below meth c s₁ B hml hP _
    have hh0 : s₁.heap = s.heap := by rw [B.state]; rfl
    obtain ⟨t, a1, o, b1, b2, b3⟩ := body p e s m args below meth c s₁ B hml hP s₁ hh0 (Stand.of_body B)
    exact ⟨t, o, a1, b1, b2, ⟨b3.1, b3.2⟩⟩
theorem ts_con {X : ts_X} {l : Launch} (mi0 : ts_M) (d : Nat) {E : ts_E} {mi : Nat → ts_M} {cs : List Nat} {tb : List (Option ts_I)} (hpl : plainFor mi0.1 = true) (hD : ∀ σ, va_D X.2.2.2.2.2.2 (ts_ws X σ)) (hE : ∀ z ∈ cs, ts_Cal X l d (mi z) (E z)) (htb : ts_tbo d mi cs mi0.1.cls mi0.2.2.2.1 mi0.2.1 0 tb = true) : ts_Met X l mi0 d (ts_Fn E tb mi0.2.2.1) := by
  intro as σ r σ' hS
  obtain ⟨hok, hR⟩ := ts_cond_i hS
  rw [ts_aok, Bool.and_eq_true] at hok
  obtain ⟨hcat, hle⟩ := hok
  have hle : as.length ≤ mi0.2.2.1 := Nat.le_of_ble_eq_true hle
  obtain ⟨n, hn⟩ := ts_R_spec hR
  refine ts_ofW (cc := mi0.2.1) (maxL := mi0.2.2.1) (ret := mi0.2.2.2.1) hpl rfl ?_
  intro p e s m args below meth c s₁ B hml hv
  obtain ⟨rfl, hP, hY⟩ := hv
  have C : ts_Cx X p s m (as.map (ts_tr X)).toArray meth c mi0.2.1 mi0.2.2.1 mi0.1.cls (ts_wl mi0) := ⟨B.exec, B.bytes, hml, findClass_of_methodNamed B.named, atoms_spec (ws := ts_wl mi0) B.pre, fun w hw => List.mem_cons_of_mem _ hw, hY, hD, B.notSynchronized⟩
  have hV := ts_run_ok (l := l) (e := e) (below := below) C B.returns hE htb n _ hn
  rw [lg_entry_eq]
  refine hV s.heap [] _ hP va_S.rf ?_
  have hl := lv_entry (as.map (ts_tr X)) (n := mi0.2.2.1) (by rw [ts_sl_len X as hcat]; exact hle)
  refine ⟨?_, hl.1, hl.2.1, fun j v hj => ?_⟩
  · show (ts_ent as mi0.2.2.1).length = mi0.2.2.1
    simp only [ts_ent, List.length_append, List.length_map, List.length_replicate]
    omega
  · have hj : (ts_ent as mi0.2.2.1)[j]? = some (some v) := hj
    have hja : as[j]? = some v := by
      rw [ts_ent, List.getElem?_append] at hj
      split at hj
      · rw [List.getElem?_map] at hj
        cases hx : as[j]? with
        | none => rw [hx] at hj; cases hj
        | some w => rw [hx] at hj; cases hj; rfl
      · rw [List.getElem?_replicate] at hj
        split at hj <;> cases hj
    have := ts_args_mem X as 0 j v hcat hja
    rw [Nat.zero_add] at this
    exact hl.2.2 (j, ts_tr X v) this
