/-! the world: 53 cells in seven groups; strings; what stays known of the machine -/
/-- the classes' places, the cells' addresses, the strings' and their bytes' addresses, the two array classes, what may change -/
abbrev ts_X : Type := va_G × (Nat → Nat → Nat) × (Nat → Nat) × (Nat → Nat) × ClassId × ClassId × (Nat → Prop)
abbrev ts_vc : List vw_C := [(RX1, TX1, 15), (RX2, TX2, 3), (RX3, TX3, 6), (RX4, TX4, 7), (RX5, TX5, 21)]
def ts_cl : List (Nat × Nat) := [(0, 0), (0, 1), (1, 0), (1, 1), (1, 2), (1, 3), (1, 4), (1, 5), (1, 6), (1, 7), (1, 8), (1, 9), (1, 10), (2, 0), (2, 1), (2, 2), (2, 3), (2, 4), (2, 5), (2, 6), (2, 7), (2, 8), (2, 9), (2, 10), (3, 0), (3, 1), (3, 2), (3, 3), (3, 4), (3, 5), (3, 6), (3, 7), (3, 8), (3, 9), (3, 10), (4, 0), (4, 1), (5, 0), (5, 1), (5, 2), (5, 3), (6, 0), (6, 1), (6, 2), (6, 3), (6, 4), (6, 5), (6, 6), (6, 7), (6, 8), (6, 9), (6, 10), (6, 11)]
def ts_tr (X : ts_X) (v : ts_V) : Value := match v with
  | .inl x => .int x
  | .inr (.inl x) => .long x
  | .inr (.inr (.inl (g, c))) => .ref (X.2.1 g c)
  | .inr (.inr (.inr k)) => .ref (X.2.2.1 k)
def ts_f1 (X : ts_X) (σ : ts_S) (g : Nat) (q : Option (Nat × Nat) × Nat) : Value := match q.1 with
  | none => .int (σ g 0 q.2)
  | some (dg, c) => .ref (X.2.1 (g + dg) c)
def ts_fs (X : ts_X) (σ : ts_S) (g : Nat) : List Value := (ts_fl (ts_kd g)).zipIdx.map (ts_f1 X σ g)
def ts_en (X : ts_X) (σ : ts_S) (g c : Nat) : va_E := match c with
  | 0 => .inr (ts_kd g, ts_fs X σ g)
  | c + 1 => match (ts_al (ts_kd g))[c + 1]? with
    | some (some n) => .inl (X.2.2.2.2.1, n, .inl (σ g (c + 1)))
    | _ => .inl (X.2.2.2.2.2.1, 7, .inr (.inr (.inr (.inr (fun i => some (X.2.2.1 i))))))
def ts_w1 (X : ts_X) (σ : ts_S) (q : Nat × Nat) : Nat × va_E := (X.2.1 q.1 q.2, ts_en X σ q.1 q.2)
def ts_ws (X : ts_X) (σ : ts_S) : va_W := ts_cl.map (ts_w1 X σ)
def ts_tys (X : ts_X) : List (ClassId × FieldType) := [(X.2.2.2.2.1, .int), (X.2.2.2.2.2.1, .object "java/lang/String")]
theorem ts_cl_inj : ∀ i, i < 53 → ∀ j, j < 53 → ts_cl[i]? = ts_cl[j]? → i = j := by decide +kernel
theorem ts_at (X : ts_X) (σ : ts_S) {g c : Nat} (h : (g, c) ∈ ts_cl) : ∃ q : Nat, ts_cl[q]? = some (g, c) ∧ (ts_ws X σ)[q]? = some (X.2.1 g c, ts_en X σ g c) := by
  obtain ⟨q, hq⟩ := List.getElem?_of_mem h
  exact ⟨q, hq, by rw [ts_ws, List.getElem?_map, hq]; rfl⟩
theorem ts_en_cong (X : ts_X) {σ σ' : ts_S} {g c : Nat} (h : σ' g c = σ g c) : ts_en X σ' g c = ts_en X σ g c := by
  cases c with
  | zero =>
    show Sum.inr (ts_kd g, ts_fs X σ' g) = Sum.inr (ts_kd g, ts_fs X σ g)
    have e : ts_f1 X σ' g = ts_f1 X σ g := by
      funext q
      unfold ts_f1
      split
      · rw [h]
      · rfl
    rw [ts_fs, ts_fs, e]
  | succ c => simp only [ts_en, h]
theorem ts_set (X : ts_X) {σ σ' : ts_S} {g c q : Nat} {e : va_E} (hq : ts_cl[q]? = some (g, c)) (he : ts_en X σ' g c = e) (ho : ∀ g' c', ¬ (g' = g ∧ c' = c) → σ' g' c' = σ g' c') : (ts_ws X σ).set q (X.2.1 g c, e) = ts_ws X σ' := by
  apply List.ext_getElem?
  intro j
  rw [List.getElem?_set, ts_ws, ts_ws, List.getElem?_map, List.getElem?_map]
  have hl : q < (ts_cl.map (ts_w1 X σ)).length := by rw [List.length_map]; exact (List.getElem?_eq_some_iff.mp hq).1
  by_cases hj : q = j
  · subst hj
    rw [if_pos rfl, if_pos hl, hq, ← he]; rfl
  · rw [if_neg hj]
    cases hx : ts_cl[j]? with
    | none => rfl
    | some p =>
      have hne : ¬ (p.1 = g ∧ p.2 = c) := by
        intro hp
        have hp' : p = (g, c) := Prod.ext hp.1 hp.2
        subst hp'
        exact hj (ts_cl_inj q (List.getElem?_eq_some_iff.mp hq).1 j (List.getElem?_eq_some_iff.mp hx).1 (hq.trans hx.symm))
      show some (ts_w1 X σ p) = some (ts_w1 X σ' p)
      rw [ts_w1, ts_w1, ts_en_cong X (ho p.1 p.2 hne)]
theorem ts_put_o (σ : ts_S) (g c : Nat) (f : Nat → Int32) : ∀ g' c', ¬ (g' = g ∧ c' = c) → va_up σ g (va_up (σ g) c f) g' c' = σ g' c' := by
  intro g' c' h
  unfold va_up
  by_cases h1 : g' = g
  · subst h1
    rw [if_pos rfl, if_neg (fun h2 => h ⟨rfl, h2⟩)]
  · rw [if_neg h1]
theorem ts_put_s (σ : ts_S) (g c : Nat) (f : Nat → Int32) : va_up σ g (va_up (σ g) c f) g c = f := by
  unfold va_up
  rw [if_pos rfl, if_pos rfl]
theorem ts_cell_row {g c n : Nat} (hg : g < 7) (h : (ts_al (ts_kd g))[c]? = some (some n)) : (g, c) ∈ ts_cl ∧ 0 < c := by
  have hc : c < 12 := by
    have h1 := (List.getElem?_eq_some_iff.mp h).1
    have : ∀ g, g < 7 → (ts_al (ts_kd g)).length ≤ 12 := by decide
    have := this g hg
    omega
  have hall : (List.range 7).all (fun g => (List.range 12).all (fun c => !((ts_al (ts_kd g))[c]?.join).isSome || (decide ((g, c) ∈ ts_cl) && decide (0 < c)))) = true := by decide +kernel
  have h2 := List.all_eq_true.mp (List.all_eq_true.mp hall g (List.mem_range.mpr hg)) c (List.mem_range.mpr hc)
  rw [h] at h2
  simpa using h2
theorem ts_cell_obj {g : Nat} (hg : g < 7) : (g, 0) ∈ ts_cl := by
  have : ∀ g, g < 7 → (g, 0) ∈ ts_cl := by decide
  exact this g hg
theorem ts_en_row (X : ts_X) (σ : ts_S) {g c n : Nat} (h0 : 0 < c) (h : (ts_al (ts_kd g))[c]? = some (some n)) : ts_en X σ g c = .inl (X.2.2.2.2.1, n, .inl (σ g c)) := by
  cases c with
  | zero => cases h0
  | succ c => unfold ts_en; simp only [h]
theorem ts_kd_lt {g a : Nat} (h : ts_kd g = a) (ha : a < 5) : g < 7 := by
  rcases Nat.lt_or_ge g 7 with q | q
  · exact q
  · have : ts_kd g = 9 := by
      unfold ts_kd
      split <;> omega
    omega
theorem ts_fs_at (X : ts_X) (σ : ts_S) {g b : Nat} {o : Option (Nat × Nat)} (h : (ts_fl (ts_kd g))[b]? = some o) : (ts_fs X σ g)[b]? = some (ts_f1 X σ g (o, b)) := by
  rw [ts_fs, List.getElem?_map, List.getElem?_zipIdx, h]
  simp
theorem ts_fs_set (X : ts_X) (σ : ts_S) {g b : Nat} (x : Int32) (h : (ts_fl (ts_kd g))[b]? = some none) : ts_fs X (ts_up σ g 0 b x) g = (ts_fs X σ g).set b (.int x) := by
  apply List.ext_getElem?
  intro j
  rw [List.getElem?_set]
  have hl : b < (ts_fs X σ g).length := by
    have := (List.getElem?_eq_some_iff.mp h).1
    simpa [ts_fs] using this
  cases hj : (ts_fl (ts_kd g))[j]? with
  | none =>
    have h1 : (ts_fs X (ts_up σ g 0 b x) g)[j]? = none := by rw [ts_fs, List.getElem?_map, List.getElem?_zipIdx, hj]; rfl
    have h2 : (ts_fs X σ g)[j]? = none := by rw [ts_fs, List.getElem?_map, List.getElem?_zipIdx, hj]; rfl
    have hne : ¬ b = j := fun e => by subst e; rw [hj] at h; cases h
    rw [h1, if_neg hne, h2]
  | some o =>
    rw [ts_fs_at X _ hj]
    by_cases e : b = j
    · subst e
      rw [h] at hj
      cases hj
      rw [if_pos rfl, if_pos hl]
      show some (Value.int (ts_up σ g 0 b x g 0 b)) = _
      rw [ts_up, ts_put_s, upd, if_pos rfl]
    · rw [if_neg e, ts_fs_at X _ hj]
      unfold ts_f1
      cases o with
      | none =>
        show some (Value.int (ts_up σ g 0 b x g 0 j)) = _
        rw [ts_up, ts_put_s, upd, if_neg (fun h => e h.symm)]
      | some q => rfl
/-! strings -/
def ts_tx : List (List Int32) := [[115, 105, 108, 108], [99, 104, 117, 114, 99, 104], [115, 97, 108, 111, 111, 110], [112, 111, 111, 114], [105, 110, 110], [98, 97, 114, 101], [109, 97, 114, 98, 108, 101], [112, 101, 114, 115, 111, 110], [99, 114, 111, 115, 115], [107, 101, 101, 112, 115], [109, 101, 110, 100, 101, 100], [104, 97, 115], [105, 110]]
def ts_s1 (X : ts_X) (U : State) (H : Heap) (i : Nat) : Prop := va_O "java/lang/String" (X.2.2.1 i) X.2.2.2.2.2.2 U H ∧ va_OF "java/lang/String" "coder" "B" (.int 0) (X.2.2.1 i) X.2.2.2.2.2.2 U H ∧ va_OF "java/lang/String" "value" "[B" (.ref (X.2.2.2.1 i)) (X.2.2.1 i) X.2.2.2.2.2.2 U H ∧ va_T .byte (X.2.2.2.1 i) (ts_tx.getD i []).length (fun j => .int ((ts_tx.getD i []).getD j 0)) X.2.2.2.2.2.2 U H
def ts_sr : List (String × Nat × String × Nat) := [("TollSills$Kinds", 37, "sill", 0), ("TollSills$Kinds", 25, "church", 1), ("TollSills$Kinds", 27, "saloon", 2), ("TollSills$Kinds", 29, "poor", 3), ("TollSills$Kinds", 31, "inn", 4), ("TollSills$Kinds", 33, "bare", 5), ("TollSills$Kinds", 35, "marble", 6), ("TollSills$Tape", 38, "person", 7), ("TollSills$Tape", 47, "cross", 8), ("TollSills$Tape", 68, "keeps", 9), ("TollSills$Tape", 73, "mended", 10), ("TollSills$Tape", 92, "has", 11), ("TollSills$Tape", 96, "in", 12),
  ("TollSillsModel", 27, "sill", 0), ("TollSillsModel", 29, "church", 1), ("TollSillsModel", 31, "saloon", 2), ("TollSillsModel", 33, "poor", 3), ("TollSillsModel", 35, "inn", 4), ("TollSillsModel", 37, "bare", 5), ("TollSillsModel", 39, "marble", 6), ("TollSillsModel", 307, "person", 7), ("TollSillsModel", 312, "cross", 8), ("TollSillsModel", 283, "keeps", 9), ("TollSillsModel", 291, "mended", 10), ("TollSillsModel", 296, "has", 11), ("TollSillsModel", 298, "in", 12)]
abbrev ts_nst : Cond := .methodLinkNest RX1 64 yX4_isBelow RX4
/-- what is known of the machine at a state with a heap, and stays known -/
def ts_Y (X : ts_X) (U : State) (H : Heap) : Prop := va_K X.1 ts_vc (ts_tys X) U ∧ (∀ i, i < 13 → ts_s1 X U H i) ∧ (∀ q ∈ ts_sr, vk_R q.1 q.2.1 q.2.2.1 (X.2.2.1 q.2.2.2) U) ∧ va_Nw ts_nst U ∧ va_Z "java/lang/String" "COMPACT_STRINGS" "Z" (.int 1) X.2.2.2.2.2.2 U H ∧ va_Zq "jdk/internal/util/Preconditions" "SIOOBE_FORMATTER" "Ljava/util/function/BiFunction;" X.2.2.2.2.2.2 U H
theorem ts_Y_to {X : ts_X} {s U : State} {H H1 : Heap} (h : ts_Y X s H) (hW : s.WarmedH U.vm) (hk : ∀ q : Nat, q < H.size → ¬ X.2.2.2.2.2.2 q → H1[q]? = H[q]?) : ts_Y X U H1 := by
  obtain ⟨h1, h2, h3, h4, h5, h6⟩ := h
  refine ⟨va_K.moved hW.alike h1, fun i hi => ?_, fun q hq => (h3 q hq).warm hW, va_Nw.warmM hW h4, (h5.moved hW.alike).kept hk, (h6.moved hW.alike).kept hk⟩
  obtain ⟨a, b, c, d⟩ := h2 i hi
  exact ⟨(a.moved hW.alike).kept hk, (b.moved hW.alike).kept hk, (c.moved hW.alike).kept hk, (d.moved hW.alike).kept hk⟩
theorem ts_Y_call {X : ts_X} {U : State} {g : JFrame} {mk : MethodId} {a : Array Value} (h : ts_Y X U U.heap) : ts_Y X (U.calling g mk a) (U.calling g mk a).heap := by
  obtain ⟨h1, h2, h3, h4, h5, h6⟩ := h
  have al : U.vm.Alike (U.calling g mk a).vm := Vm.Alike.refl U.vm
  refine ⟨va_K.moved al h1, fun i hi => ?_, fun q hq => (h3 q hq).same rfl, va_Nw.same rfl rfl h4, h5.moved al, h6.moved al⟩
  obtain ⟨a, b, c, d⟩ := h2 i hi
  exact ⟨a.moved al, b.moved al, c.moved al, d.moved al⟩
/-! locals -/
def ts_lo (X : ts_X) (nL : Nat) (lo : ts_L) (ls : Array Slot) : Prop := lo.length = nL ∧ ls.size = nL ∧ lv_wf ls ∧ ∀ (j : Nat) (v : ts_V), lo[j]? = some (some v) → ls[j]? = some (.val (ts_tr X v))
def ts_pr (X : ts_X) (lo : ts_L) (j : Nat) : Option (Nat × Value) := match lo[j]? with
  | some (some v) => some (j, ts_tr X v)
  | _ => none
def ts_prs (X : ts_X) (lo : ts_L) : List (Nat × Value) := (List.range lo.length).filterMap (ts_pr X lo)
theorem ts_prs_mem {X : ts_X} {lo : ts_L} {j : Nat} {v : ts_V} (h : lo[j]? = some (some v)) : (j, ts_tr X v) ∈ ts_prs X lo := by
  refine List.mem_filterMap.mpr ⟨j, List.mem_range.mpr (List.getElem?_eq_some_iff.mp h).1, ?_⟩
  unfold ts_pr
  rw [h]
theorem ts_lo_has {X : ts_X} {nL : Nat} {lo : ts_L} {ls : Array Slot} (h : ts_lo X nL lo ls) : lv_has ls nL (ts_prs X lo) := by
  refine ⟨h.2.1, h.2.2.1, fun q hq => ?_⟩
  obtain ⟨j, -, hj⟩ := List.mem_filterMap.mp hq
  unfold ts_pr at hj
  split at hj
  · next v hv => cases hj; exact h.2.2.2 j v hv
  · cases hj
theorem ts_tr_cat (X : ts_X) (v : ts_V) : (ts_tr X v).category = ts_cat v := by
  rcases v with x | x | ⟨g, c⟩ | x <;> rfl
theorem ts_nl_ok {lo : ts_L} {i j : Nat} {v : ts_V} (h : ts_nl lo i = true) (hj : lo[j]? = some (some v)) (e : j + 1 = i) : ts_cat v = 1 := by
  subst e
  unfold ts_nl at h
  rcases v with x | x | ⟨g, c⟩ | x
  · rfl
  · simp [hj] at h
  · rfl
  · rfl
theorem ts_lo_put {X : ts_X} {nL : Nat} {lo : ts_L} {ls ls' : Array Slot} {i : Nat} {v : ts_V} (h : ts_lo X nL lo ls) (hn : ts_nl lo i = true) (h' : lv_has ls' nL ((i, ts_tr X v) :: (ts_prs X lo).filter (fun q => !(q.1 == i) && !(q.1 + 1 == i && q.2.category == 2)))) : ts_lo X nL (lo.set i (some v)) ls' := by
  refine ⟨by rw [List.length_set]; exact h.1, h'.1, h'.2.1, fun j w hj => ?_⟩
  by_cases e : i = j
  · subst e
    rw [List.getElem?_set] at hj
    rw [if_pos rfl] at hj
    split at hj
    · cases hj
      exact h'.2.2 (i, ts_tr X v) List.mem_cons_self
    · cases hj
  · rw [List.getElem?_set, if_neg e] at hj
    refine h'.2.2 (j, ts_tr X w) (List.mem_cons_of_mem _ (List.mem_filter.mpr ⟨ts_prs_mem hj, ?_⟩))
    have c1 : (j == i) = false := by simpa using fun h => e h.symm
    have c2 : (j + 1 == i && (ts_tr X w).category == 2) = false := by
      by_cases q : j + 1 = i
      · rw [ts_tr_cat, ts_nl_ok hn hj q]; simp
      · simp [q]
    show (!(j == i) && !(j + 1 == i && (ts_tr X w).category == 2)) = true
    rw [c1, c2]; rfl
theorem ts_lo_put2 {X : ts_X} {nL : Nat} {lo : ts_L} {ls ls' : Array Slot} {i : Nat} {v : ts_V} (h : ts_lo X nL lo ls) (hn : ts_nl lo i = true) (h' : lv_has ls' nL ((i, ts_tr X v) :: (ts_prs X lo).filter (fun q => !(q.1 == i) && (!(q.1 == i + 1) && !(q.1 + 1 == i && q.2.category == 2))))) : ts_lo X nL ((lo.set i (some v)).set (i + 1) none) ls' := by
  refine ⟨by rw [List.length_set, List.length_set]; exact h.1, h'.1, h'.2.1, fun j w hj => ?_⟩
  rw [List.getElem?_set] at hj
  by_cases e1 : i + 1 = j
  · rw [if_pos e1] at hj
    split at hj <;> cases hj
  · rw [if_neg e1] at hj
    by_cases e : i = j
    · subst e
      rw [List.getElem?_set] at hj
      rw [if_pos rfl] at hj
      split at hj
      · cases hj
        exact h'.2.2 (i, ts_tr X v) List.mem_cons_self
      · cases hj
    · rw [List.getElem?_set, if_neg e] at hj
      refine h'.2.2 (j, ts_tr X w) (List.mem_cons_of_mem _ (List.mem_filter.mpr ⟨ts_prs_mem hj, ?_⟩))
      have c1 : (j == i) = false := by simpa using fun h => e h.symm
      have c3 : (j == i + 1) = false := by simpa using fun h => e1 h.symm
      have c2 : (j + 1 == i && (ts_tr X w).category == 2) = false := by
        by_cases q : j + 1 = i
        · rw [ts_tr_cat, ts_nl_ok hn hj q]; simp
        · simp [q]
      show (!(j == i) && (!(j == i + 1) && !(j + 1 == i && (ts_tr X w).category == 2))) = true
      rw [c1, c2, c3]; rfl
