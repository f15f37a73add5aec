/-! a step asks its continuation at one place at most; runs grow; the limit is a fixed point -/
def ts_one (F : ts_K → Option ts_A) : Prop := (∃ a, ∀ k, F k = a) ∨ ∃ c, ∀ k, F k = k c
theorem one_k (c : ts_C) : ts_one (fun k => k c) := Or.inr ⟨c, fun _ => rfl⟩
theorem one_c (a : Option ts_A) : ts_one (fun _ => a) := Or.inl ⟨a, fun _ => rfl⟩
theorem one_if {p : Prop} [Decidable p] {F G : ts_K → Option ts_A} (hF : ts_one F) (hG : ts_one G) : ts_one (fun k => if p then F k else G k) := by
  by_cases h : p
  · simp only [if_pos h]; exact hF
  · simp only [if_neg h]; exact hG
theorem one_cond {b : Bool} {F G : ts_K → Option ts_A} (hF : ts_one F) (hG : ts_one G) : ts_one (fun k => cond b (F k) (G k)) := by
  cases b
  · exact hG
  · exact hF
theorem one_bind {o : Option ts_A} {F : ts_A → ts_K → Option ts_A} (hF : ∀ a, ts_one (F a)) : ts_one (fun k => o.bind (fun a => F a k)) := by
  cases o with
  | none => exact one_c none
  | some a => exact hF a
theorem one_bd {u : Nat} {o : Option ts_A} {rest : List ts_V} {F : ts_K → List ts_V → ts_S → Option ts_A} (hF : ∀ r s, ts_one (fun k => F k r s)) : ts_one (fun k => ts_bd u o rest (F k)) := by
  unfold ts_bd
  split
  · unfold ts_bi; split
    · exact hF _ _
    · exact one_c none
  · unfold ts_bv; split
    · exact hF _ _
    · exact one_c none
  · unfold ts_bl; split
    · exact hF _ _
    · exact one_c none
  · unfold ts_bs; split
    · exact hF _ _
    · exact one_c none
theorem one_ck {i : Int32} {n : Nat} {F : ts_K → Option ts_A} (hF : ts_one F) : ts_one (fun k => ts_ck i n (F k)) := one_if (one_c none) hF
theorem one_o1 {st : List ts_V} {F : ts_K → Int32 → List ts_V → Option ts_A} (hF : ∀ x r, ts_one (fun k => F k x r)) : ts_one (fun k => ts_o1 st (F k)) := by
  unfold ts_o1
  split
  · exact hF _ _
  · exact one_c none
theorem one_o2 {st : List ts_V} {F : ts_K → Int32 → Int32 → List ts_V → Option ts_A} (hF : ∀ x y r, ts_one (fun k => F k x y r)) : ts_one (fun k => ts_o2 st (F k)) := by
  unfold ts_o2
  split
  · exact hF _ _ _
  · exact one_c none
theorem one_l1 {st : List ts_V} {F : ts_K → Int64 → List ts_V → Option ts_A} (hF : ∀ x r, ts_one (fun k => F k x r)) : ts_one (fun k => ts_l1 st (F k)) := by
  unfold ts_l1
  split
  · exact hF _ _
  · exact one_c none
theorem one_l2 {st : List ts_V} {F : ts_K → Int64 → Int64 → List ts_V → Option ts_A} (hF : ∀ x y r, ts_one (fun k => F k x y r)) : ts_one (fun k => ts_l2 st (F k)) := by
  unfold ts_l2
  split
  · exact hF _ _ _
  · exact one_c none
theorem one_r1 {st : List ts_V} {F : ts_K → Nat → Nat → List ts_V → Option ts_A} (hF : ∀ g c r, ts_one (fun k => F k g c r)) : ts_one (fun k => ts_r1 st (F k)) := by
  unfold ts_r1
  split
  · exact hF _ _ _
  · exact one_c none
theorem one_r2 {st : List ts_V} {F : ts_K → Int32 → Nat → Nat → List ts_V → Option ts_A} (hF : ∀ i g c r, ts_one (fun k => F k i g c r)) : ts_one (fun k => ts_r2 st (F k)) := by
  unfold ts_r2
  split
  · exact hF _ _ _ _
  · exact one_c none
theorem one_r3 {st : List ts_V} {F : ts_K → Int32 → Int32 → Nat → Nat → List ts_V → Option ts_A} (hF : ∀ x i g c r, ts_one (fun k => F k x i g c r)) : ts_one (fun k => ts_r3 st (F k)) := by
  unfold ts_r3
  split
  · exact hF _ _ _ _ _
  · exact one_c none
theorem one_li {lo : ts_L} {i : Nat} {F : ts_K → Int32 → Option ts_A} (hF : ∀ x, ts_one (fun k => F k x)) : ts_one (fun k => ts_li lo i (F k)) := by
  unfold ts_li
  split
  · exact hF _
  · exact one_c none
theorem one_ll {lo : ts_L} {i : Nat} {F : ts_K → Int64 → Option ts_A} (hF : ∀ x, ts_one (fun k => F k x)) : ts_one (fun k => ts_ll lo i (F k)) := by
  unfold ts_ll
  split
  · exact hF _
  · exact one_c none
theorem one_lr {lo : ts_L} {i : Nat} {F : ts_K → (Nat × Nat) ⊕ Nat → Option ts_A} (hF : ∀ x, ts_one (fun k => F k x)) : ts_one (fun k => ts_lr lo i (F k)) := by
  unfold ts_lr
  split
  · exact hF _
  · exact one_c none
theorem one_an {a c : Nat} {F : ts_K → Nat → Option ts_A} (hF : ∀ x, ts_one (fun k => F k x)) : ts_one (fun k => ts_an a c (F k)) := by
  unfold ts_an
  split
  · exact hF _
  · exact one_c none
theorem one_sto {lo : ts_L} {i : Nat} {v : ts_V} {F : ts_K → ts_L → Option ts_A} (hF : ∀ x, ts_one (fun k => F k x)) : ts_one (fun k => ts_sto lo i v (F k)) := one_cond (hF _) (one_c none)
theorem one_st2 {lo : ts_L} {i : Nat} {v : ts_V} {F : ts_K → ts_L → Option ts_A} (hF : ∀ x, ts_one (fun k => F k x)) : ts_one (fun k => ts_st2 lo i v (F k)) := one_cond (hF _) (one_c none)
theorem one_gf {σ : ts_S} {g b : Nat} {o : Option (Option (Nat × Nat))} {F : ts_K → ts_V → Option ts_A} (hF : ∀ x, ts_one (fun k => F k x)) : ts_one (fun k => ts_gf σ g b o (F k)) := by
  unfold ts_gf
  split
  · exact hF _
  · exact hF _
  · exact one_c none
theorem one_pf {o : Option (Option (Nat × Nat))} {F : ts_K → Option ts_A} (hF : ts_one F) : ts_one (fun k => ts_pf o (F k)) := by
  unfold ts_pf
  split
  · exact hF
  · exact one_c none
theorem one_sw {x : Int32} {d : Nat} {F : ts_K → Nat → Option ts_A} (hF : ∀ t, ts_one (fun k => F k t)) : ∀ ps : List (Nat × Nat), ts_one (fun k => ts_sw x d (F k) ps)
  | [] => hF d
  | (v, t) :: r => one_if (hF t) (one_sw hF r)
theorem one_ac {st : List ts_V} {σ : ts_S} {F : ts_K → List ts_V → ts_S → Option ts_A} (hF : ∀ r s, ts_one (fun k => F k r s)) : ts_one (fun k => ts_ac st σ (F k)) := by
  unfold ts_ac
  split
  · exact one_an fun n0 => one_an fun n1 => one_if (one_c none) (hF _ _)
  · exact one_c none
set_option maxHeartbeats 4000000 in
theorem ts_st_one (E : ts_E) (i : ts_I) (pc : Nat) (lo : ts_L) (st : List ts_V) (σ : ts_S) : ts_one (fun k => ts_st E i pc lo st σ k) := by
  obtain ⟨i, a, b, ps⟩ := i
  unfold ts_st
  split <;> (try dsimp only) <;> first
    | exact one_k _
    | exact one_c _
    | exact one_cond (one_k _) (one_k _)
    | exact one_li fun x => one_k _
    | exact one_ll fun x => one_k _
    | exact one_lr fun x => one_k _
    | exact one_o1 fun x r => one_k _
    | exact one_o2 fun x y r => one_k _
    | exact one_l2 fun x y r => one_k _
    | exact one_o2 fun x y r => one_if (one_c none) (one_k _)
    | exact one_o1 fun x r => one_if (one_k _) (one_k _)
    | exact one_o2 fun x y r => one_if (one_k _) (one_k _)
    | exact one_o1 fun x r => one_sto fun l => one_k _
    | exact one_l1 fun x r => one_st2 fun l => one_k _
    | exact one_li fun x => one_sto fun l => one_k _
    | exact one_o1 fun x r => one_sw (fun t => one_k _) ps
    | exact one_r1 fun g c r => one_cond (one_gf fun v => one_k _) (one_c none)
    | exact one_r2 fun j g c r => one_an fun n => one_ck (one_k _)
    | exact one_r3 fun x j g c r => one_an fun n => one_ck (one_k _)
    | exact one_r2 fun j g c r => one_cond (one_ck (one_k _)) (one_c none)
    | (split <;> first
        | exact one_c _
        | exact one_cond (one_k _) (one_c none)
        | exact one_cond (one_c _) (one_c _)
        | exact one_cond (one_bd fun r s => one_k _) (one_c none)
        | exact one_cond (one_ac fun r s => one_cond (one_k _) (one_c none)) (one_cond (one_bd fun r s => one_k _) (one_c none))
        | (split <;> first
            | exact one_cond (one_pf (one_k _)) (one_c none)
            | exact one_cond (one_pf (one_if (one_k _) (one_c none))) (one_c none)))
    | (refine one_r1 fun g c r => ?_
       split
       · exact one_k _
       · exact one_cond (one_k _) (one_c none))
theorem ts_stp_one (E : ts_E) (tb : List (Option ts_I)) (c : ts_C) : (∃ a, ∀ k, ts_stp E tb c k = a) ∨ ∃ c', ∀ k, ts_stp E tb c k = k c' := by
  unfold ts_stp
  split
  · exact ts_st_one E _ _ _ _ _
  · exact one_c none
theorem ts_run_up (E : ts_E) (tb : List (Option ts_I)) : ∀ (n : Nat) (c : ts_C) (a : ts_A), ts_run E tb n c = some a → ts_run E tb (n + 1) c = some a
  | 0, _, _, h => by cases h
  | n + 1, c, a, h => by
    show ts_stp E tb c (ts_run E tb (n + 1)) = some a
    have h' : ts_stp E tb c (ts_run E tb n) = some a := h
    rcases ts_stp_one E tb c with ⟨b, hb⟩ | ⟨c', hc⟩
    · rw [hb] at h' ⊢; exact h'
    · rw [hc] at h' ⊢; exact ts_run_up E tb n c' a h'
theorem ts_run_le (E : ts_E) (tb : List (Option ts_I)) {n m : Nat} (h : n ≤ m) {c : ts_C} {a : ts_A} (hn : ts_run E tb n c = some a) : ts_run E tb m c = some a := by
  induction h with
  | refl => exact hn
  | step _ ih => exact ts_run_up E tb _ _ _ ih
noncomputable def ts_R (E : ts_E) (tb : List (Option ts_I)) (c : ts_C) : Option ts_A := @dite _ (∃ n a, ts_run E tb n c = some a) (Classical.propDecidable _) (fun h => ts_run E tb h.choose c) (fun _ => none)
theorem ts_R_spec {E : ts_E} {tb : List (Option ts_I)} {c : ts_C} {a : ts_A} (h : ts_R E tb c = some a) : ∃ n, ts_run E tb n c = some a := by
  unfold ts_R at h
  split at h
  · next hx => exact ⟨_, h⟩
  · cases h
theorem ts_R_of {E : ts_E} {tb : List (Option ts_I)} {c : ts_C} {a : ts_A} {n : Nat} (h : ts_run E tb n c = some a) : ts_R E tb c = some a := by
  unfold ts_R
  have hx : ∃ n a, ts_run E tb n c = some a := ⟨n, a, h⟩
  rw [dif_pos hx]
  obtain ⟨b, hb⟩ := hx.choose_spec
  have h1 := ts_run_le E tb (Nat.le_max_left hx.choose n) hb
  have h2 := ts_run_le E tb (Nat.le_max_right hx.choose n) h
  rw [hb, ← h1, h2]
theorem ts_R_none {E : ts_E} {tb : List (Option ts_I)} {c : ts_C} (h : ∀ n, ts_run E tb n c = none) : ts_R E tb c = none := by
  cases hr : ts_R E tb c with
  | none => rfl
  | some a =>
    obtain ⟨n, hn⟩ := ts_R_spec hr
    rw [h n] at hn
    cases hn
theorem ts_fix (E : ts_E) (tb : List (Option ts_I)) (c : ts_C) : ts_R E tb c = ts_stp E tb c (ts_R E tb) := by
  rcases ts_stp_one E tb c with ⟨b, hb⟩ | ⟨c', hc⟩
  · rw [hb]
    cases b with
    | some a => exact ts_R_of (n := 1) (hb _)
    | none =>
      refine ts_R_none fun n => ?_
      cases n with
      | zero => rfl
      | succ n => exact hb _
  · rw [hc]
    cases hr : ts_R E tb c' with
    | some a =>
      obtain ⟨n, hn⟩ := ts_R_spec hr
      exact ts_R_of (n := n + 1) ((hc _).trans hn)
    | none =>
      refine ts_R_none fun n => ?_
      cases n with
      | zero => rfl
      | succ n =>
        show ts_stp E tb c (ts_run E tb n) = none
        rw [hc]
        cases hn : ts_run E tb n c' with
        | none => rfl
        | some a => rw [ts_R_of hn] at hr; cases hr
/-- unrolled up to the stops -/
noncomputable def ts_un (E : ts_E) (tb : List (Option ts_I)) (sp : List Nat) : Nat → ts_K
  | 0, c => ts_R E tb c
  | n + 1, c => cond (sp.elem c.1) (ts_R E tb c) (ts_stp E tb c (ts_un E tb sp n))
theorem ts_un_eq (E : ts_E) (tb : List (Option ts_I)) (sp : List Nat) : ∀ (n : Nat), ts_un E tb sp n = ts_R E tb
  | 0 => rfl
  | n + 1 => by
    funext c
    show cond (sp.elem c.1) (ts_R E tb c) (ts_stp E tb c (ts_un E tb sp n)) = _
    rw [ts_un_eq E tb sp n, ← ts_fix]
    cases sp.elem c.1 <;> rfl
theorem ts_unf (E : ts_E) (tb : List (Option ts_I)) (sp : List Nat) (n : Nat) (c : ts_C) : ts_R E tb c = ts_stp E tb c (ts_un E tb sp n) := by
  rw [ts_un_eq]; exact ts_fix E tb c
/-- a method's entry -/
def ts_ent (as : List ts_V) (n : Nat) : ts_L := as.map some ++ List.replicate (n - as.length) none
