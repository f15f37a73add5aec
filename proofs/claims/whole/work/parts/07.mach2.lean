/-! fields, rows, switches, answers, calls -/
def ts_TT (k : Nat) : u_T := match k with
  | 0 => TX1
  | 1 => TX2
  | 2 => TX3
  | 3 => TX4
  | _ => TX5
def ts_NN (k : Nat) : Nat := match k with
  | 0 => 15
  | 1 => 3
  | 2 => 6
  | 3 => 7
  | _ => 21
def ts_ty (k : Nat) : Nat → FieldType := match k with
  | 0 => tyX1
  | 1 => tyX2
  | 2 => tyX3
  | 3 => tyX4
  | _ => tyX5
theorem ts_vc_at {k : Nat} (h : k < 5) : ts_vc[k]? = some (ts_cn k, ts_TT k, ts_NN k) := by
  match k, h with
  | 0, _ => rfl
  | 1, _ => rfl
  | 2, _ => rfl
  | 3, _ => rfl
  | 4, _ => rfl
theorem ts_fl_len {k : Nat} (h : k < 5) : (ts_fl k).length = ts_NN k := by
  match k, h with
  | 0, _ => rfl
  | 1, _ => rfl
  | 2, _ => rfl
  | 3, _ => rfl
  | 4, _ => rfl
theorem ts_ty_ok {k : Nat} (h : k < 5) : ∀ j, j < ts_NN k → parseFieldDescriptor (ts_TT k j).2.2.1 = some (ts_ty k j) := by
  match k, h with
  | 0, _ => exact tyX1_ok
  | 1, _ => exact tyX2_ok
  | 2, _ => exact tyX3_ok
  | 3, _ => exact tyX4_ok
  | 4, _ => exact tyX5_ok
theorem ts_nm_ok {k : Nat} (h : k < 5) : ∀ a, a < ts_NN k → ∀ b, b < ts_NN k → a ≠ b → (ts_TT k a).2.1 ≠ (ts_TT k b).2.1 := by
  match k, h with
  | 0, _ => exact nmX1
  | 1, _ => exact nmX2
  | 2, _ => exact nmX3
  | 3, _ => exact nmX4
  | 4, _ => exact nmX5
/-- the fields' words lie in the tables -/
def ts_lw (k : Nat) : List Cond := u_ws (ts_cn k) (ts_TT k) (ts_NN k)
set_option maxRecDepth 20000 in
theorem ts_lw_in {k : Nat} (h : k < 5) : ∀ w ∈ ts_lw k, w ∈ ts_TB := by
  have g : ∀ k, k < 5 → (ts_lw k).all goodWord = true := by decide +kernel
  have i : ∀ k, k < 5 → (ts_lw k).all (fun w => tables_1_1.contains w || (tables_1_4.contains w || (tables_1_2.contains w || (tables_1_3.contains w || tables_1_5.contains w)))) = true := by decide +kernel
  intro w hw
  have h2 := List.all_eq_true.mp (i k h) w hw
  refine List.mem_filter.mpr ⟨?_, List.all_eq_true.mp (g k h) w hw⟩
  simp only [Bool.or_eq_true, List.contains_iff_mem] at h2
  unfold lw_tbl tables_1
  simp only [List.mem_append]
  rcases h2 with h2 | h2 | h2 | h2 | h2 <;> simp [h2]
