/-! the methods' equations, part 1 -/
def ts_q (g : Nat) : Prop := g = 1 ∨ g = 2 ∨ g = 3
def ts_bq (g k : Nat) : Prop := (g = 2 ∧ k = 1) ∨ (g = 3 ∧ k = 1) ∨ (g = 1 ∧ k = 2) ∨ (g = 1 ∧ k = 3)
def ts_rq (c n : Nat) : Prop := (c = 2 ∧ n = 8) ∨ (c = 3 ∧ n = 8) ∨ (c = 4 ∧ n = 8) ∨ (c = 7 ∧ n = 6) ∨ (c = 8 ∧ n = 6) ∨ (c = 9 ∧ n = 6)
def ts_mq (a b : Nat) : Prop := (a = 1 ∧ b = 2) ∨ (a = 2 ∧ b = 1) ∨ (a = 1 ∧ b = 3) ∨ (a = 3 ∧ b = 1)
set_option maxRecDepth 100000 in
set_option maxHeartbeats 2000000 in
theorem e_X0_parentOf (a1 : Int32) (σ : ts_S) : F_X0_parentOf [.inl a1] σ = (if a1 = nI 1 then (some (some (.inl (nI 0)), σ)) else if a1 = nI 2 then (some (some (.inl (nI 0)), σ)) else if a1 = nI 3 then (some (some (.inl (nI 2)), σ)) else if a1 = nI 4 then (some (some (.inl (nI 3)), σ)) else if a1 = nI 5 then (some (some (.inl (nI 0)), σ)) else if a1 = nI 6 then (some (some (.inl (nI 1)), σ)) else some (some (.inl (-1)), σ)) := by
  exact (ts_unf E_X0_parentOf tb_X0_parentOf [] 15 _).trans rfl
noncomputable def H_X0_isUnder_4 (v0 : Int32) (v1 : Int32) (v2 : Int32) (v3 : Int32) (σ : ts_S) : Option ts_A := ts_R E_X0_isUnder tb_X0_isUnder (4, [some (.inl v0), some (.inl v1), some (.inl v2), some (.inl v3)], [], σ)
set_option maxRecDepth 100000 in
set_option maxHeartbeats 2000000 in
theorem e_X0_isUnder (a1 : Int32) (a2 : Int32) (σ : ts_S) : F_X0_isUnder [.inl a1, .inl a2] σ = (H_X0_isUnder_4 a1 a2 a1 (nI 0) σ) := by
  exact (ts_unf E_X0_isUnder tb_X0_isUnder [4] 25 _).trans rfl
set_option maxRecDepth 100000 in
set_option maxHeartbeats 2000000 in
theorem h_X0_isUnder_4 (v0 : Int32) (v1 : Int32) (v2 : Int32) (v3 : Int32) (σ : ts_S) : H_X0_isUnder_4 v0 v1 v2 v3 σ = (if (nI 7) ≤ v3 then (some (some (.inl (nI 0)), σ)) else if v2 = (-1) then (some (some (.inl (nI 0)), σ)) else if v2 = v1 then (some (some (.inl (nI 1)), σ)) else ts_bi (F_X0_parentOf [.inl v2] σ) fun x2 σ1 => H_X0_isUnder_4 v0 v1 x2 (v3 + (nI 1)) σ1) := by
  exact (ts_unf E_X0_isUnder tb_X0_isUnder [4] 25 _).trans rfl
set_option maxRecDepth 100000 in
set_option maxHeartbeats 2000000 in
theorem e_X0_nameOf (a1 : Int32) (σ : ts_S) : F_X0_nameOf [.inl a1] σ = (if a1 = nI 1 then (some (some (.inr (.inr (.inr 1))), σ)) else if a1 = nI 2 then (some (some (.inr (.inr (.inr 2))), σ)) else if a1 = nI 3 then (some (some (.inr (.inr (.inr 3))), σ)) else if a1 = nI 4 then (some (some (.inr (.inr (.inr 4))), σ)) else if a1 = nI 5 then (some (some (.inr (.inr (.inr 5))), σ)) else if a1 = nI 6 then (some (some (.inr (.inr (.inr 6))), σ)) else some (some (.inr (.inr (.inr 0))), σ)) := by
  exact (ts_unf E_X0_nameOf tb_X0_nameOf [] 19 _).trans rfl
noncomputable def H_X3_isWord_28 (v1 : Nat) (v2 : Int32) (σ : ts_S) : Option ts_A := ts_R E_X3_isWord tb_X3_isWord (28, [some (.inr (.inr (.inl (4, 0)))), some (.inr (.inr (.inr v1))), some (.inl v2)], [], σ)
set_option maxRecDepth 100000 in
set_option maxHeartbeats 2000000 in
theorem e_X3_isWord {a1 : Nat} (ha : a1 < 13) (σ : ts_S) : F_X3_isWord [.inr (.inr (.inl (4, 0))), .inr (.inr (.inr a1))] σ = (if (σ 4 0 2) = (nI 1) then (ts_bi (F_slen [.inr (.inr (.inr a1))] σ) fun x2 σ1 => if ((σ 4 0 4) - (σ 4 0 3)) = x2 then (H_X3_isWord_28 a1 (nI 0) σ1) else some (some (.inl (nI 0)), σ1)) else some (some (.inl (nI 0)), σ)) := by
  match a1, ha with
  | 0, _ => exact (ts_unf E_X3_isWord tb_X3_isWord [28] 40 _).trans rfl
  | 1, _ => exact (ts_unf E_X3_isWord tb_X3_isWord [28] 40 _).trans rfl
  | 2, _ => exact (ts_unf E_X3_isWord tb_X3_isWord [28] 40 _).trans rfl
  | 3, _ => exact (ts_unf E_X3_isWord tb_X3_isWord [28] 40 _).trans rfl
  | 4, _ => exact (ts_unf E_X3_isWord tb_X3_isWord [28] 40 _).trans rfl
  | 5, _ => exact (ts_unf E_X3_isWord tb_X3_isWord [28] 40 _).trans rfl
  | 6, _ => exact (ts_unf E_X3_isWord tb_X3_isWord [28] 40 _).trans rfl
  | 7, _ => exact (ts_unf E_X3_isWord tb_X3_isWord [28] 40 _).trans rfl
  | 8, _ => exact (ts_unf E_X3_isWord tb_X3_isWord [28] 40 _).trans rfl
  | 9, _ => exact (ts_unf E_X3_isWord tb_X3_isWord [28] 40 _).trans rfl
  | 10, _ => exact (ts_unf E_X3_isWord tb_X3_isWord [28] 40 _).trans rfl
  | 11, _ => exact (ts_unf E_X3_isWord tb_X3_isWord [28] 40 _).trans rfl
  | 12, _ => exact (ts_unf E_X3_isWord tb_X3_isWord [28] 40 _).trans rfl
set_option maxRecDepth 100000 in
set_option maxHeartbeats 2000000 in
theorem h_X3_isWord_28 {v1 : Nat} (ha : v1 < 13) (v2 : Int32) (σ : ts_S) : H_X3_isWord_28 v1 v2 σ = (ts_bi (F_slen [.inr (.inr (.inr v1))] σ) fun x2 σ1 => if x2 ≤ v2 then (some (some (.inl (nI 1)), σ1)) else ts_ck ((σ1 4 0 3) + v2) 120 <| ts_bi (F_schar [.inr (.inr (.inr v1)), .inl v2] σ1) fun x4 σ3 => if (σ1 4 1 (((σ1 4 0 3) + v2).toNatClampNeg)) = x4 then (H_X3_isWord_28 v1 (v2 + (nI 1)) σ3) else some (some (.inl (nI 0)), σ3)) := by
  match v1, ha with
  | 0, _ => exact (ts_unf E_X3_isWord tb_X3_isWord [28] 40 _).trans rfl
  | 1, _ => exact (ts_unf E_X3_isWord tb_X3_isWord [28] 40 _).trans rfl
  | 2, _ => exact (ts_unf E_X3_isWord tb_X3_isWord [28] 40 _).trans rfl
  | 3, _ => exact (ts_unf E_X3_isWord tb_X3_isWord [28] 40 _).trans rfl
  | 4, _ => exact (ts_unf E_X3_isWord tb_X3_isWord [28] 40 _).trans rfl
  | 5, _ => exact (ts_unf E_X3_isWord tb_X3_isWord [28] 40 _).trans rfl
  | 6, _ => exact (ts_unf E_X3_isWord tb_X3_isWord [28] 40 _).trans rfl
  | 7, _ => exact (ts_unf E_X3_isWord tb_X3_isWord [28] 40 _).trans rfl
  | 8, _ => exact (ts_unf E_X3_isWord tb_X3_isWord [28] 40 _).trans rfl
  | 9, _ => exact (ts_unf E_X3_isWord tb_X3_isWord [28] 40 _).trans rfl
  | 10, _ => exact (ts_unf E_X3_isWord tb_X3_isWord [28] 40 _).trans rfl
  | 11, _ => exact (ts_unf E_X3_isWord tb_X3_isWord [28] 40 _).trans rfl
  | 12, _ => exact (ts_unf E_X3_isWord tb_X3_isWord [28] 40 _).trans rfl
noncomputable def H_X0_kindNamed_2 (v1 : Int32) (σ : ts_S) : Option ts_A := ts_R E_X0_kindNamed tb_X0_kindNamed (2, [some (.inr (.inr (.inl (4, 0)))), some (.inl v1)], [], σ)
set_option maxRecDepth 100000 in
set_option maxHeartbeats 2000000 in
theorem e_X0_kindNamed (σ : ts_S) : F_X0_kindNamed [.inr (.inr (.inl (4, 0)))] σ = (H_X0_kindNamed_2 (nI 0) σ) := by
  exact (ts_unf E_X0_kindNamed tb_X0_kindNamed [2] 19 _).trans rfl
set_option maxRecDepth 100000 in
set_option maxHeartbeats 2000000 in
theorem h_X0_kindNamed_2 (v1 : Int32) (σ : ts_S) : H_X0_kindNamed_2 v1 σ = (if (nI 7) ≤ v1 then (some (some (.inl (-1)), σ)) else ts_bs (F_X0_nameOf [.inl v1] σ) fun x2 σ1 => ts_bi (F_X3_isWord [.inr (.inr (.inl (4, 0))), .inr (.inr (.inr x2))] σ1) fun x4 σ3 => if x4 = nI 0 then (H_X0_kindNamed_2 (v1 + (nI 1)) σ3) else some (some (.inl v1), σ3)) := by
  exact (ts_unf E_X0_kindNamed tb_X0_kindNamed [2] 19 _).trans rfl
set_option maxRecDepth 100000 in
set_option maxHeartbeats 2000000 in
theorem e_X0_mostHeld (a1 : Int32) (σ : ts_S) : F_X0_mostHeld [.inl a1] σ = (if a1 = nI 1 then (some (some (.inl (nI 4)), σ)) else if a1 = nI 2 then (some (some (.inl (nI 5)), σ)) else if a1 = nI 3 then (some (some (.inl (nI 4)), σ)) else if a1 = nI 4 then (some (some (.inl (nI 2)), σ)) else if a1 = nI 5 then (some (some (.inl (nI 3)), σ)) else if a1 = nI 6 then (some (some (.inl (nI 0)), σ)) else some (some (.inl (nI 3)), σ)) := by
  exact (ts_unf E_X0_mostHeld tb_X0_mostHeld [] 17 _).trans rfl
noncomputable def H_X0_greatest_3 (v0 : Int32) (v1 : Int32) (σ : ts_S) : Option ts_A := ts_R E_X0_greatest tb_X0_greatest (3, [some (.inl v0), some (.inl v1)], [], σ)
set_option maxRecDepth 100000 in
set_option maxHeartbeats 2000000 in
theorem e_X0_greatest (a1 : Int32) (σ : ts_S) : F_X0_greatest [.inl a1] σ = (H_X0_greatest_3 a1 (nI 11) σ) := by
  exact (ts_unf E_X0_greatest tb_X0_greatest [3] 19 _).trans rfl
set_option maxRecDepth 100000 in
set_option maxHeartbeats 2000000 in
theorem h_X0_greatest_3 (v0 : Int32) (v1 : Int32) (σ : ts_S) : H_X0_greatest_3 v0 v1 σ = (if v1 < nI 0 then (some (some (.inl (-1)), σ)) else if ((v0 >>> (v1 &&& nI 31)) &&& (nI 1)) = nI 0 then (H_X0_greatest_3 v0 (v1 + (-1)) σ) else some (some (.inl v1), σ)) := by
  exact (ts_unf E_X0_greatest tb_X0_greatest [3] 19 _).trans rfl
noncomputable def H_X0_least_2 (v0 : Int32) (v1 : Int32) (σ : ts_S) : Option ts_A := ts_R E_X0_least tb_X0_least (2, [some (.inl v0), some (.inl v1)], [], σ)
set_option maxRecDepth 100000 in
set_option maxHeartbeats 2000000 in
theorem e_X0_least (a1 : Int32) (σ : ts_S) : F_X0_least [.inl a1] σ = (H_X0_least_2 a1 (nI 0) σ) := by
  exact (ts_unf E_X0_least tb_X0_least [2] 20 _).trans rfl
set_option maxRecDepth 100000 in
set_option maxHeartbeats 2000000 in
theorem h_X0_least_2 (v0 : Int32) (v1 : Int32) (σ : ts_S) : H_X0_least_2 v0 v1 σ = (if (nI 12) ≤ v1 then (some (some (.inl (-1)), σ)) else if ((v0 >>> (v1 &&& nI 31)) &&& (nI 1)) = nI 0 then (H_X0_least_2 v0 (v1 + (nI 1)) σ) else some (some (.inl v1), σ)) := by
  exact (ts_unf E_X0_least tb_X0_least [2] 20 _).trans rfl
set_option maxRecDepth 100000 in
set_option maxHeartbeats 2000000 in
theorem e_X0_wordTaken (a1 : Int32) (a2 : Int32) (a3 : Int32) (σ : ts_S) : F_X0_wordTaken [.inl a1, .inl a2, .inl a3] σ = (ts_bi (F_X0_greatest [.inl a2] σ) fun x2 σ1 => ts_bi (F_X0_greatest [.inl (a2 &&& (nI 1365))] σ1) fun x4 σ3 => if x4 = (-1) then (if a1 = nI 1 then (ts_bi (F_X0_least [.inl a2] σ3) fun x6 σ5 => some (some (.inl x6), σ5)) else if a1 = nI 2 then (some (some (.inl x4), σ3)) else if a1 = nI 3 then (some (some (.inl x2), σ3)) else if a1 = nI 4 then (if x2 = (-1) then (some (some (.inl x2), σ3)) else if ((a3 >>> (x2 &&& nI 31)) &&& (nI 1)) = nI 0 then (some (some (.inl x2), σ3)) else some (some (.inl (-1)), σ3)) else if a1 = nI 5 then (some (some (.inl x2), σ3)) else if a1 = nI 6 then (ts_bi (F_X0_least [.inl a2] σ3) fun x8 σ7 => some (some (.inl x8), σ7)) else some (some (.inl x2), σ3)) else if a1 = nI 1 then (ts_bi (F_X0_least [.inl a2] σ3) fun x10 σ9 => some (some (.inl x10), σ9)) else if a1 = nI 2 then (some (some (.inl x4), σ3)) else if a1 = nI 3 then (some (some (.inl x4), σ3)) else if a1 = nI 4 then (if x4 = (-1) then (some (some (.inl x4), σ3)) else if ((a3 >>> (x4 &&& nI 31)) &&& (nI 1)) = nI 0 then (some (some (.inl x4), σ3)) else some (some (.inl (-1)), σ3)) else if a1 = nI 5 then (some (some (.inl x2), σ3)) else if a1 = nI 6 then (ts_bi (F_X0_least [.inl a2] σ3) fun x12 σ11 => some (some (.inl x12), σ11)) else some (some (.inl x2), σ3)) := by
  exact (ts_unf E_X0_wordTaken tb_X0_wordTaken [] 42 _).trans rfl
set_option maxRecDepth 100000 in
set_option maxHeartbeats 2000000 in
theorem e_X0_placeGiven (a1 : Int32) (a2 : Int32) (a3 : Int32) (σ : ts_S) : F_X0_placeGiven [.inl a1, .inl a2, .inl a3] σ = (if nI 0 < a2 then (if a1 = nI 2 then (some (some (.inl (a2 - (nI 1))), σ)) else if a1 = nI 3 then (if (a3 - a3 / (nI 3) * (nI 3)) = nI 0 then (some (some (.inl (nI 0)), σ)) else some (some (.inl (a2 - (nI 1))), σ)) else if a1 = nI 4 then (if (a3 - a3 / (nI 3) * (nI 3)) = nI 0 then (some (some (.inl (nI 0)), σ)) else some (some (.inl (a2 - (nI 1))), σ)) else if a1 = nI 5 then (some (some (.inl (-1)), σ)) else some (some (.inl (nI 0)), σ)) else some (some (.inl (-1)), σ)) := by
  exact (ts_unf E_X0_placeGiven tb_X0_placeGiven [] 27 _).trans rfl
set_option maxRecDepth 100000 in
set_option maxHeartbeats 2000000 in
theorem e_X1_become {g : Nat} {k : Nat} (hg : ts_bq g k) (σ : ts_S) : F_X1_become [.inr (.inr (.inl (g, 0))), .inr (.inr (.inl (k, 0)))] σ = (ts_cpy σ 6 6 k 1 (nI 0) g 1 (nI 0) (nI 6) fun σ1 => ts_nw (ts_up σ1 g 0 1 (σ1 k 0 1)) fun σ2 => ts_nw (ts_up σ2 g 0 2 (σ2 k 0 2)) fun σ3 => ts_nw (ts_up σ3 g 0 3 (σ3 k 0 3)) fun σ4 => ts_nw (ts_up σ4 g 0 4 (σ4 k 0 4)) fun σ5 => ts_cpy σ5 8 8 k 2 (nI 0) g 2 (nI 0) (nI 8) fun σ6 => ts_cpy σ6 8 8 k 3 (nI 0) g 3 (nI 0) (nI 8) fun σ7 => ts_cpy σ7 8 8 k 4 (nI 0) g 4 (nI 0) (nI 8) fun σ8 => ts_cpy σ8 8 8 k 5 (nI 0) g 5 (nI 0) (nI 8) fun σ9 => ts_cpy σ9 40 40 k 6 (nI 0) g 6 (nI 0) (nI 40) fun σ10 => ts_nw (ts_up σ10 g 0 10 (σ10 k 0 10)) fun σ11 => ts_cpy σ11 6 6 k 7 (nI 0) g 7 (nI 0) (nI 6) fun σ12 => ts_cpy σ12 6 6 k 8 (nI 0) g 8 (nI 0) (nI 6) fun σ13 => ts_cpy σ13 6 6 k 9 (nI 0) g 9 (nI 0) (nI 6) fun σ14 => ts_cpy σ14 10 10 k 10 (nI 0) g 10 (nI 0) (nI 10) fun σ15 => some (none, σ15)) := by
  rcases hg with ⟨rfl, rfl⟩ | ⟨rfl, rfl⟩ | ⟨rfl, rfl⟩ | ⟨rfl, rfl⟩ <;> exact (ts_unf E_X1_become tb_X1_become [] 104 _).trans rfl
set_option maxRecDepth 100000 in
set_option maxHeartbeats 2000000 in
theorem e_X4_isBelow (a1 : Int32) (a2 : Int32) (σ : ts_S) : F_X4_isBelow [.inl a1, .inl a2] σ = (if a1 < nI 0 then (some (some (.inl (nI 0)), σ)) else if a2 ≤ a1 then (some (some (.inl (nI 0)), σ)) else some (some (.inl (nI 1)), σ)) := by
  exact (ts_unf E_X4_isBelow tb_X4_isBelow [] 12 _).trans rfl
set_option maxRecDepth 100000 in
set_option maxHeartbeats 2000000 in
theorem e_X1_isSill {g : Nat} (hg : ts_q g) (a1 : Int32) (σ : ts_S) : F_X1_isSill [.inr (.inr (.inl (g, 0))), .inl a1] σ = (ts_bi (F_X4_isBelow [.inl a1, .inl (σ g 0 4)] σ) fun x2 σ1 => if x2 = nI 0 ∨ x2 = nI 1 then some (some (.inl x2), σ1) else none) := by
  rcases hg with rfl | rfl | rfl <;> exact (ts_unf E_X1_isSill tb_X1_isSill [] 8 _).trans rfl
set_option maxRecDepth 100000 in
set_option maxHeartbeats 2000000 in
theorem e_X1_isPerson {g : Nat} (hg : ts_q g) (a1 : Int32) (σ : ts_S) : F_X1_isPerson [.inr (.inr (.inl (g, 0))), .inl a1] σ = (ts_bi (F_X4_isBelow [.inl a1, .inl (σ g 0 10)] σ) fun x2 σ1 => if x2 = nI 0 ∨ x2 = nI 1 then some (some (.inl x2), σ1) else none) := by
  rcases hg with rfl | rfl | rfl <;> exact (ts_unf E_X1_isPerson tb_X1_isPerson [] 8 _).trans rfl
set_option maxRecDepth 100000 in
set_option maxHeartbeats 2000000 in
theorem e_X1_hasWord {g : Nat} (hg : ts_q g) (a1 : Int32) (a2 : Int32) (σ : ts_S) : F_X1_hasWord [.inr (.inr (.inl (g, 0))), .inl a1, .inl a2] σ = (ts_ck a1 6 <| if (((σ g 7 (a1.toNatClampNeg)) >>> (a2 &&& nI 31)) &&& (nI 1)) = nI 0 then (some (some (.inl (nI 0)), σ)) else some (some (.inl (nI 1)), σ)) := by
  rcases hg with rfl | rfl | rfl <;> exact (ts_unf E_X1_hasWord tb_X1_hasWord [] 16 _).trans rfl
set_option maxRecDepth 100000 in
set_option maxHeartbeats 2000000 in
theorem e_X1_addSill {g : Nat} (hg : ts_q g) (a1 : Int32) (σ : ts_S) : F_X1_addSill [.inr (.inr (.inl (g, 0))), .inl a1] σ = (if (σ g 0 4) < (nI 8) then (ts_ni (σ g 0 4) fun y1 => ts_nw (ts_up σ g 0 4 ((σ g 0 4) + (nI 1))) fun σ2 => ts_ck y1 8 <| ts_nw (ts_up σ2 g 2 (y1.toNatClampNeg) a1) fun σ3 => ts_ck y1 8 <| ts_nw (ts_up σ3 g 3 (y1.toNatClampNeg) (nI 0)) fun σ4 => ts_ck y1 8 <| ts_nw (ts_up σ4 g 4 (y1.toNatClampNeg) (nI 0)) fun σ5 => ts_ck y1 8 <| ts_nw (ts_up σ5 g 5 (y1.toNatClampNeg) (nI 0)) fun σ6 => some (some (.inl y1), σ6)) else some (some (.inl (-1)), σ)) := by
  rcases hg with rfl | rfl | rfl <;> exact (ts_unf E_X1_addSill tb_X1_addSill [] 40 _).trans rfl
set_option maxRecDepth 100000 in
set_option maxHeartbeats 2000000 in
theorem e_X1_addPerson {g : Nat} (hg : ts_q g) (a1 : Int32) (σ : ts_S) : F_X1_addPerson [.inr (.inr (.inl (g, 0))), .inl a1] σ = (if (σ g 0 10) < (nI 6) then (ts_ni (σ g 0 10) fun y1 => ts_nw (ts_up σ g 0 10 ((σ g 0 10) + (nI 1))) fun σ2 => ts_ck y1 6 <| ts_nw (ts_up σ2 g 7 (y1.toNatClampNeg) a1) fun σ3 => ts_ck y1 6 <| ts_nw (ts_up σ3 g 8 (y1.toNatClampNeg) (-1)) fun σ4 => ts_ck y1 6 <| ts_nw (ts_up σ4 g 9 (y1.toNatClampNeg) (nI 0)) fun σ5 => some (some (.inl y1), σ5)) else some (some (.inl (-1)), σ)) := by
  rcases hg with rfl | rfl | rfl <;> exact (ts_unf E_X1_addPerson tb_X1_addPerson [] 35 _).trans rfl
set_option maxRecDepth 100000 in
set_option maxHeartbeats 2000000 in
theorem e_X1_keptAt {g : Nat} (hg : ts_q g) (a1 : Int32) (a2 : Int32) (σ : ts_S) : F_X1_keptAt [.inr (.inr (.inl (g, 0))), .inl a1, .inl a2] σ = (ts_bi (F_X4_isBelow [.inl a1, .inl (σ g 0 4)] σ) fun x2 σ1 => if x2 = nI 0 then (some (some (.inl (-1)), σ1)) else ts_ck a1 8 <| ts_bi (F_X4_isBelow [.inl a2, .inl (σ1 g 5 (a1.toNatClampNeg))] σ1) fun x4 σ3 => if x4 = nI 0 then (some (some (.inl (-1)), σ3)) else ts_ck ((a1 * (nI 5)) + a2) 40 <| some (some (.inl (σ3 g 6 (((a1 * (nI 5)) + a2).toNatClampNeg))), σ3)) := by
  rcases hg with rfl | rfl | rfl <;> exact (ts_unf E_X1_keptAt tb_X1_keptAt [] 26 _).trans rfl
noncomputable def H_X1_keptSet_4 (g : Nat) (v1 : Int32) (v2 : Int32) (v3 : Int32) (σ : ts_S) : Option ts_A := ts_R E_X1_keptSet tb_X1_keptSet (4, [some (.inr (.inr (.inl (g, 0)))), some (.inl v1), some (.inl v2), some (.inl v3)], [], σ)
set_option maxRecDepth 100000 in
set_option maxHeartbeats 2000000 in
theorem e_X1_keptSet {g : Nat} (hg : ts_q g) (a1 : Int32) (σ : ts_S) : F_X1_keptSet [.inr (.inr (.inl (g, 0))), .inl a1] σ = (H_X1_keptSet_4 g a1 (nI 0) (nI 0) σ) := by
  rcases hg with rfl | rfl | rfl <;> exact (ts_unf E_X1_keptSet tb_X1_keptSet [4] 30 _).trans rfl
set_option maxRecDepth 100000 in
set_option maxHeartbeats 2000000 in
theorem h_X1_keptSet_4 {g : Nat} (hg : ts_q g) (v1 : Int32) (v2 : Int32) (v3 : Int32) (σ : ts_S) : H_X1_keptSet_4 g v1 v2 v3 σ = (ts_ck v1 8 <| if (σ g 5 (v1.toNatClampNeg)) ≤ v3 then (some (some (.inl v2), σ)) else ts_ck ((v1 * (nI 5)) + v3) 40 <| ts_ni (v2 ||| ((nI 1) <<< ((σ g 6 (((v1 * (nI 5)) + v3).toNatClampNeg)) &&& nI 31))) fun y1 => H_X1_keptSet_4 g v1 y1 (v3 + (nI 1)) σ) := by
  rcases hg with rfl | rfl | rfl <;> exact (ts_unf E_X1_keptSet tb_X1_keptSet [4] 30 _).trans rfl
set_option maxRecDepth 100000 in
set_option maxHeartbeats 2000000 in
theorem e_X1_keep {g : Nat} (hg : ts_q g) (a1 : Int32) (a2 : Int32) (σ : ts_S) : F_X1_keep [.inr (.inr (.inl (g, 0))), .inl a1, .inl a2] σ = (ts_ck a1 8 <| if (σ g 5 (a1.toNatClampNeg)) < (nI 5) then (ts_ck a1 8 <| ts_ck ((a1 * (nI 5)) + (σ g 5 (a1.toNatClampNeg))) 40 <| ts_nw (ts_up σ g 6 (((a1 * (nI 5)) + (σ g 5 (a1.toNatClampNeg))).toNatClampNeg) a2) fun σ1 => ts_ck a1 8 <| ts_ck a1 8 <| ts_nw (ts_up σ1 g 5 (a1.toNatClampNeg) ((σ1 g 5 (a1.toNatClampNeg)) + (nI 1))) fun σ2 => some (some (.inl (nI 1)), σ2)) else some (some (.inl (nI 0)), σ)) := by
  rcases hg with rfl | rfl | rfl <;> exact (ts_unf E_X1_keep tb_X1_keep [] 33 _).trans rfl
noncomputable def H_X1_dropKept_7 (g : Nat) (v1 : Int32) (v2 : Int32) (v3 : Int32) (v4 : Int32) (σ : ts_S) : Option ts_A := ts_R E_X1_dropKept tb_X1_dropKept (7, [some (.inr (.inr (.inl (g, 0)))), some (.inl v1), some (.inl v2), some (.inl v3), some (.inl v4)], [], σ)
set_option maxRecDepth 100000 in
set_option maxHeartbeats 2000000 in
theorem e_X1_dropKept {g : Nat} (hg : ts_q g) (a1 : Int32) (a2 : Int32) (σ : ts_S) : F_X1_dropKept [.inr (.inr (.inl (g, 0))), .inl a1, .inl a2] σ = (ts_ni (a1 * (nI 5)) fun y1 => H_X1_dropKept_7 g a1 a2 y1 a2 σ) := by
  rcases hg with rfl | rfl | rfl <;> exact (ts_unf E_X1_dropKept tb_X1_dropKept [7] 42 _).trans rfl
set_option maxRecDepth 100000 in
set_option maxHeartbeats 2000000 in
theorem h_X1_dropKept_7 {g : Nat} (hg : ts_q g) (v1 : Int32) (v2 : Int32) (v3 : Int32) (v4 : Int32) (σ : ts_S) : H_X1_dropKept_7 g v1 v2 v3 v4 σ = (ts_ck v1 8 <| if ((σ g 5 (v1.toNatClampNeg)) - (nI 1)) ≤ v4 then (ts_ck v1 8 <| ts_ck v1 8 <| ts_nw (ts_up σ g 5 (v1.toNatClampNeg) ((σ g 5 (v1.toNatClampNeg)) - (nI 1))) fun σ1 => some (none, σ1)) else ts_ck ((v3 + v4) + (nI 1)) 40 <| ts_ck (v3 + v4) 40 <| ts_nw (ts_up σ g 6 ((v3 + v4).toNatClampNeg) (σ g 6 (((v3 + v4) + (nI 1)).toNatClampNeg))) fun σ2 => H_X1_dropKept_7 g v1 v2 v3 (v4 + (nI 1)) σ2) := by
  rcases hg with rfl | rfl | rfl <;> exact (ts_unf E_X1_dropKept tb_X1_dropKept [7] 42 _).trans rfl
set_option maxRecDepth 100000 in
set_option maxHeartbeats 2000000 in
theorem e_X1_placeGiven {g : Nat} (hg : ts_q g) (a1 : Int32) (σ : ts_S) : F_X1_placeGiven [.inr (.inr (.inl (g, 0))), .inl a1] σ = (ts_ck a1 8 <| ts_ck a1 8 <| ts_ck a1 8 <| ts_bi (F_X0_placeGiven [.inl (σ g 2 (a1.toNatClampNeg)), .inl (σ g 5 (a1.toNatClampNeg)), .inl (σ g 3 (a1.toNatClampNeg))] σ) fun x2 σ1 => some (some (.inl x2), σ1)) := by
  rcases hg with rfl | rfl | rfl <;> exact (ts_unf E_X1_placeGiven tb_X1_placeGiven [] 17 _).trans rfl
set_option maxRecDepth 100000 in
set_option maxHeartbeats 2000000 in
theorem e_X1_tellSill {g : Nat} (hg : ts_q g) (a1 : Int32) (a2 : Int32) (σ : ts_S) : F_X1_tellSill [.inr (.inr (.inl (g, 0))), .inl a1, .inl a2] σ = (if a2 = nI 0 then (ts_ck a1 8 <| some (some (.inl (σ g 2 (a1.toNatClampNeg))), σ)) else if a2 = nI 1 then (ts_ck a1 8 <| some (some (.inl (σ g 5 (a1.toNatClampNeg))), σ)) else if a2 = nI 2 then (ts_ck a1 8 <| some (some (.inl (σ g 3 (a1.toNatClampNeg))), σ)) else if a2 = nI 3 then (ts_ck a1 8 <| some (some (.inl (σ g 4 (a1.toNatClampNeg))), σ)) else if a2 = nI 4 then (ts_ck a1 8 <| ts_bi (F_X0_mostHeld [.inl (σ g 2 (a1.toNatClampNeg))] σ) fun x2 σ1 => some (some (.inl x2), σ1)) else if a2 = nI 5 then (ts_bi (F_X1_keptSet [.inr (.inr (.inl (g, 0))), .inl a1] σ) fun x4 σ3 => some (some (.inl x4), σ3)) else ts_bi (F_X1_placeGiven [.inr (.inr (.inl (g, 0))), .inl a1] σ) fun x6 σ5 => ts_bi (F_X1_keptAt [.inr (.inr (.inl (g, 0))), .inl a1, .inl x6] σ5) fun x8 σ7 => some (some (.inl x8), σ7)) := by
  rcases hg with rfl | rfl | rfl <;> exact (ts_unf E_X1_tellSill tb_X1_tellSill [] 42 _).trans rfl
set_option maxRecDepth 100000 in
set_option maxHeartbeats 2000000 in
theorem e_X1_tellPerson {g : Nat} (hg : ts_q g) (a1 : Int32) (a2 : Int32) (σ : ts_S) : F_X1_tellPerson [.inr (.inr (.inl (g, 0))), .inl a1, .inl a2] σ = (if a2 = nI 0 then (ts_ck a1 6 <| some (some (.inl (σ g 7 (a1.toNatClampNeg))), σ)) else if a2 = nI 1 then (ts_ck a1 6 <| some (some (.inl (σ g 8 (a1.toNatClampNeg))), σ)) else ts_ck a1 6 <| some (some (.inl (σ g 9 (a1.toNatClampNeg))), σ)) := by
  rcases hg with rfl | rfl | rfl <;> exact (ts_unf E_X1_tellPerson tb_X1_tellPerson [] 20 _).trans rfl
set_option maxRecDepth 100000 in
set_option maxHeartbeats 2000000 in
theorem e_X1_mayCross {g : Nat} (hg : ts_q g) (a1 : Int32) (a2 : Int32) (σ : ts_S) : F_X1_mayCross [.inr (.inr (.inl (g, 0))), .inl a1, .inl a2] σ = (ts_ck a2 8 <| if (σ g 4 (a2.toNatClampNeg)) = nI 0 then (ts_ck a1 6 <| if (σ g 8 (a1.toNatClampNeg)) = (-1) then (some (some (.inl (nI 1)), σ)) else ts_ck a1 6 <| if (σ g 8 (a1.toNatClampNeg)) = a2 then (some (some (.inl (nI 1)), σ)) else some (some (.inl (nI 0)), σ)) else some (some (.inl (nI 0)), σ)) := by
  rcases hg with rfl | rfl | rfl <;> exact (ts_unf E_X1_mayCross tb_X1_mayCross [] 24 _).trans rfl
set_option maxRecDepth 100000 in
set_option maxHeartbeats 2000000 in
theorem e_J9_min_7cf53 (a1 : Int32) (a2 : Int32) (σ : ts_S) : F_J9_min_7cf53 [.inl a1, .inl a2] σ = (if a2 < a1 then (some (some (.inl a2), σ)) else some (some (.inl a1), σ)) := by
  exact (ts_unf E_J9_min_7cf53 tb_J9_min_7cf53 [] 10 _).trans rfl
set_option maxRecDepth 100000 in
set_option maxHeartbeats 2000000 in
theorem e_X1_loseWord {g : Nat} (hg : ts_q g) (σ : ts_S) : F_X1_loseWord [.inr (.inr (.inl (g, 0)))] σ = (ts_bi (F_J9_min_7cf53 [.inl ((σ g 0 1) + (nI 1)), .inl (nI 99999)] σ) fun x2 σ1 => ts_nw (ts_up σ1 g 0 1 x2) fun σ3 => some (none, σ3)) := by
  rcases hg with rfl | rfl | rfl <;> exact (ts_unf E_X1_loseWord tb_X1_loseWord [] 12 _).trans rfl
set_option maxRecDepth 100000 in
set_option maxHeartbeats 2000000 in
theorem e_X1_goIn {g : Nat} (hg : ts_q g) (a1 : Int32) (a2 : Int32) (σ : ts_S) : F_X1_goIn [.inr (.inr (.inl (g, 0))), .inl a1, .inl a2] σ = (ts_ck a1 6 <| ts_nw (ts_up σ g 8 (a1.toNatClampNeg) a2) fun σ1 => ts_ck a2 8 <| ts_ck a1 6 <| ts_bi (F_X1_keptSet [.inr (.inr (.inl (g, 0))), .inl a2] σ1) fun x3 σ2 => ts_bi (F_X0_wordTaken [.inl (σ1 g 2 (a2.toNatClampNeg)), .inl (σ1 g 7 (a1.toNatClampNeg)), .inl x3] σ2) fun x5 σ4 => if x5 = (-1) then (some (some (.inl (-1)), σ4)) else ts_ck a1 6 <| ts_ck a1 6 <| ts_nw (ts_up σ4 g 7 (a1.toNatClampNeg) ((σ4 g 7 (a1.toNatClampNeg)) &&& (((nI 1) <<< (x5 &&& nI 31)) ^^^ (-1)))) fun σ6 => ts_ck a2 8 <| ts_ck a2 8 <| ts_bi (F_X0_mostHeld [.inl (σ6 g 2 (a2.toNatClampNeg))] σ6) fun x8 σ7 => if x8 ≤ (σ6 g 5 (a2.toNatClampNeg)) then (if (nI 0) = nI 0 then (ts_bv (F_X1_loseWord [.inr (.inr (.inl (g, 0)))] σ7) fun σ9 => some (some (.inl x5), σ9)) else ts_bi (F_X1_keep [.inr (.inr (.inl (g, 0))), .inl a2, .inl x5] σ7) fun x11 σ10 => if x11 = nI 0 then (ts_bv (F_X1_loseWord [.inr (.inr (.inl (g, 0)))] σ10) fun σ12 => some (some (.inl x5), σ12)) else some (some (.inl x5), σ10)) else if (nI 1) = nI 0 then (ts_bv (F_X1_loseWord [.inr (.inr (.inl (g, 0)))] σ7) fun σ13 => some (some (.inl x5), σ13)) else ts_bi (F_X1_keep [.inr (.inr (.inl (g, 0))), .inl a2, .inl x5] σ7) fun x15 σ14 => if x15 = nI 0 then (ts_bv (F_X1_loseWord [.inr (.inr (.inl (g, 0)))] σ14) fun σ16 => some (some (.inl x5), σ16)) else some (some (.inl x5), σ14)) := by
  rcases hg with rfl | rfl | rfl <;> exact (ts_unf E_X1_goIn tb_X1_goIn [] 63 _).trans rfl
set_option maxRecDepth 100000 in
set_option maxHeartbeats 2000000 in
theorem e_X1_comeOut {g : Nat} (hg : ts_q g) (a1 : Int32) (a2 : Int32) (σ : ts_S) : F_X1_comeOut [.inr (.inr (.inl (g, 0))), .inl a1, .inl a2] σ = (ts_ck a1 6 <| ts_nw (ts_up σ g 8 (a1.toNatClampNeg) (-1)) fun σ1 => ts_bi (F_X1_placeGiven [.inr (.inr (.inl (g, 0))), .inl a2] σ1) fun x3 σ2 => ts_bi (F_X1_keptAt [.inr (.inr (.inl (g, 0))), .inl a2, .inl x3] σ2) fun x5 σ4 => if x5 = (-1) then (some (some (.inl (-1)), σ4)) else ts_bv (F_X1_dropKept [.inr (.inr (.inl (g, 0))), .inl a2, .inl x3] σ4) fun σ6 => ts_bi (F_X1_hasWord [.inr (.inr (.inl (g, 0))), .inl a1, .inl x5] σ6) fun x8 σ7 => if x8 = nI 0 then (ts_ck a1 6 <| ts_ck a1 6 <| ts_nw (ts_up σ7 g 7 (a1.toNatClampNeg) ((σ7 g 7 (a1.toNatClampNeg)) ||| ((nI 1) <<< (x5 &&& nI 31)))) fun σ9 => some (some (.inl x5), σ9)) else ts_bv (F_X1_loseWord [.inr (.inr (.inl (g, 0)))] σ7) fun σ10 => ts_ck a1 6 <| ts_ck a1 6 <| ts_nw (ts_up σ10 g 7 (a1.toNatClampNeg) ((σ10 g 7 (a1.toNatClampNeg)) ||| ((nI 1) <<< (x5 &&& nI 31)))) fun σ11 => some (some (.inl x5), σ11)) := by
  rcases hg with rfl | rfl | rfl <;> exact (ts_unf E_X1_comeOut tb_X1_comeOut [] 45 _).trans rfl
set_option maxRecDepth 100000 in
set_option maxHeartbeats 2000000 in
theorem e_X1_makeCrossing {g : Nat} (hg : ts_q g) (a1 : Int32) (a2 : Int32) (σ : ts_S) : F_X1_makeCrossing [.inr (.inr (.inl (g, 0))), .inl a1, .inl a2] σ = (ts_bi (F_X1_isPerson [.inr (.inr (.inl (g, 0))), .inl a1] σ) fun x2 σ1 => if x2 = nI 0 then (some (some (.inl (-1)), σ1)) else ts_bi (F_X1_isSill [.inr (.inr (.inl (g, 0))), .inl a2] σ1) fun x4 σ3 => if x4 = nI 0 then (some (some (.inl (-1)), σ3)) else ts_bi (F_X1_mayCross [.inr (.inr (.inl (g, 0))), .inl a1, .inl a2] σ3) fun x6 σ5 => if x6 = nI 0 then (some (some (.inl (-1)), σ5)) else ts_ck a1 6 <| if (σ5 g 8 (a1.toNatClampNeg)) = (-1) then (ts_bi (F_X1_goIn [.inr (.inr (.inl (g, 0))), .inl a1, .inl a2] σ5) fun x8 σ7 => ts_ck a2 8 <| ts_bi (F_J9_min_7cf53 [.inl ((σ7 g 3 (a2.toNatClampNeg)) + (nI 1)), .inl (nI 9999)] σ7) fun x10 σ9 => ts_ck a2 8 <| ts_nw (ts_up σ9 g 3 (a2.toNatClampNeg) x10) fun σ11 => ts_ck a1 6 <| ts_bi (F_J9_min_7cf53 [.inl ((σ11 g 9 (a1.toNatClampNeg)) + (nI 1)), .inl (nI 9999)] σ11) fun x13 σ12 => ts_ck a1 6 <| ts_nw (ts_up σ12 g 9 (a1.toNatClampNeg) x13) fun σ14 => some (some (.inl x8), σ14)) else ts_bi (F_X1_comeOut [.inr (.inr (.inl (g, 0))), .inl a1, .inl a2] σ5) fun x16 σ15 => ts_ck a2 8 <| ts_bi (F_J9_min_7cf53 [.inl ((σ15 g 3 (a2.toNatClampNeg)) + (nI 1)), .inl (nI 9999)] σ15) fun x18 σ17 => ts_ck a2 8 <| ts_nw (ts_up σ17 g 3 (a2.toNatClampNeg) x18) fun σ19 => ts_ck a1 6 <| ts_bi (F_J9_min_7cf53 [.inl ((σ19 g 9 (a1.toNatClampNeg)) + (nI 1)), .inl (nI 9999)] σ19) fun x21 σ20 => ts_ck a1 6 <| ts_nw (ts_up σ20 g 9 (a1.toNatClampNeg) x21) fun σ22 => some (some (.inl x16), σ22)) := by
  rcases hg with rfl | rfl | rfl <;> exact (ts_unf E_X1_makeCrossing tb_X1_makeCrossing [] 60 _).trans rfl
set_option maxRecDepth 100000 in
set_option maxHeartbeats 2000000 in
theorem e_J9_floorMod_7cf53 (a1 : Int32) (a2 : Int32) (σ : ts_S) : F_J9_floorMod_7cf53 [.inl a1, .inl a2] σ = (if a2 = nI 0 then none else ts_ni (a1 - a1 / a2 * a2) fun y1 => if nI 0 ≤ (a1 ^^^ a2) then (some (some (.inl y1), σ)) else if y1 = nI 0 then (some (some (.inl y1), σ)) else some (some (.inl (y1 + a2)), σ)) := by
  exact (ts_unf E_J9_floorMod_7cf53 tb_J9_floorMod_7cf53 [] 19 _).trans rfl
set_option maxRecDepth 100000 in
set_option maxHeartbeats 2000000 in
theorem e_X1_placeOfToday {g : Nat} (hg : ts_q g) (σ : ts_S) : F_X1_placeOfToday [.inr (.inr (.inl (g, 0)))] σ = (ts_bi (F_J9_floorMod_7cf53 [.inl (σ g 0 2), .inl (nI 6)] σ) fun x2 σ1 => some (some (.inl x2), σ1)) := by
  rcases hg with rfl | rfl | rfl <;> exact (ts_unf E_X1_placeOfToday tb_X1_placeOfToday [] 8 _).trans rfl
noncomputable def H_X1_passDays_2 (g : Nat) (v1 : Int32) (v2 : Int32) (σ : ts_S) : Option ts_A := ts_R E_X1_passDays tb_X1_passDays (2, [some (.inr (.inr (.inl (g, 0)))), some (.inl v1), some (.inl v2), none], [], σ)
set_option maxRecDepth 100000 in
set_option maxHeartbeats 2000000 in
theorem e_X1_passDays {g : Nat} (hg : ts_q g) (a1 : Int32) (σ : ts_S) : F_X1_passDays [.inr (.inr (.inl (g, 0))), .inl a1] σ = (H_X1_passDays_2 g a1 (nI 0) σ) := by
  rcases hg with rfl | rfl | rfl <;> exact (ts_unf E_X1_passDays tb_X1_passDays [2] 34 _).trans rfl
set_option maxRecDepth 100000 in
set_option maxHeartbeats 2000000 in
theorem h_X1_passDays_2 {g : Nat} (hg : ts_q g) (v1 : Int32) (v2 : Int32) (σ : ts_S) : H_X1_passDays_2 g v1 v2 σ = (if v1 ≤ v2 then (some (none, σ)) else ts_bi (F_X1_placeOfToday [.inr (.inr (.inl (g, 0)))] σ) fun x2 σ1 => ts_ck x2 6 <| ts_ni (σ1 g 1 (x2.toNatClampNeg)) fun y3 => ts_bi (F_X1_makeCrossing [.inr (.inr (.inl (g, 0))), .inl (y3 / (nI 10)), .inl (y3 - y3 / (nI 10) * (nI 10))] σ1) fun x5 σ4 => ts_bi (F_J9_min_7cf53 [.inl ((σ4 g 0 2) + (nI 1)), .inl (nI 99999)] σ4) fun x7 σ6 => ts_nw (ts_up σ6 g 0 2 x7) fun σ8 => H_X1_passDays_2 g v1 (v2 + (nI 1)) σ8) := by
  rcases hg with rfl | rfl | rfl <;> exact (ts_unf E_X1_passDays tb_X1_passDays [2] 34 _).trans rfl
set_option maxRecDepth 100000 in
set_option maxHeartbeats 2000000 in
theorem e_X1_draw {g : Nat} (hg : ts_q g) (σ : ts_S) : F_X1_draw [.inr (.inr (.inl (g, 0)))] σ = (ts_nw (ts_up σ g 0 3 (((σ g 0 3) * (nI 1103515245)) + (nI 12345))) fun σ1 => some (some (.inl ((Int32.toUInt32 (σ1 g 0 3) >>> (Int32.toUInt32 (nI 8) &&& Int32.toUInt32 31)).toInt32)), σ1)) := by
  rcases hg with rfl | rfl | rfl <;> exact (ts_unf E_X1_draw tb_X1_draw [] 16 _).trans rfl
noncomputable def H_X1_wordsHad_4 (g : Nat) (v1 : Int32) (v2 : Int32) (σ : ts_S) : Option ts_A := ts_R E_X1_wordsHad tb_X1_wordsHad (4, [some (.inr (.inr (.inl (g, 0)))), some (.inl v1), some (.inl v2)], [], σ)
set_option maxRecDepth 100000 in
set_option maxHeartbeats 2000000 in
theorem e_X1_wordsHad {g : Nat} (hg : ts_q g) (σ : ts_S) : F_X1_wordsHad [.inr (.inr (.inl (g, 0)))] σ = (H_X1_wordsHad_4 g (nI 0) (nI 0) σ) := by
  rcases hg with rfl | rfl | rfl <;> exact (ts_unf E_X1_wordsHad tb_X1_wordsHad [4] 22 _).trans rfl
set_option maxRecDepth 100000 in
set_option maxHeartbeats 2000000 in
theorem h_X1_wordsHad_4 {g : Nat} (hg : ts_q g) (v1 : Int32) (v2 : Int32) (σ : ts_S) : H_X1_wordsHad_4 g v1 v2 σ = (if (σ g 0 10) ≤ v2 then (some (some (.inl v1), σ)) else ts_ck v2 6 <| ts_ni (v1 ||| (σ g 7 (v2.toNatClampNeg))) fun y1 => H_X1_wordsHad_4 g y1 (v2 + (nI 1)) σ) := by
  rcases hg with rfl | rfl | rfl <;> exact (ts_unf E_X1_wordsHad tb_X1_wordsHad [4] 22 _).trans rfl
noncomputable def H_X1_wordsKept_4 (g : Nat) (v1 : Int32) (v2 : Int32) (σ : ts_S) : Option ts_A := ts_R E_X1_wordsKept tb_X1_wordsKept (4, [some (.inr (.inr (.inl (g, 0)))), some (.inl v1), some (.inl v2)], [], σ)
set_option maxRecDepth 100000 in
set_option maxHeartbeats 2000000 in
theorem e_X1_wordsKept {g : Nat} (hg : ts_q g) (σ : ts_S) : F_X1_wordsKept [.inr (.inr (.inl (g, 0)))] σ = (H_X1_wordsKept_4 g (nI 0) (nI 0) σ) := by
  rcases hg with rfl | rfl | rfl <;> exact (ts_unf E_X1_wordsKept tb_X1_wordsKept [4] 21 _).trans rfl
set_option maxRecDepth 100000 in
set_option maxHeartbeats 2000000 in
theorem h_X1_wordsKept_4 {g : Nat} (hg : ts_q g) (v1 : Int32) (v2 : Int32) (σ : ts_S) : H_X1_wordsKept_4 g v1 v2 σ = (if (σ g 0 4) ≤ v2 then (some (some (.inl v1), σ)) else ts_bi (F_X1_keptSet [.inr (.inr (.inl (g, 0))), .inl v2] σ) fun x2 σ1 => ts_ni (v1 ||| x2) fun y3 => H_X1_wordsKept_4 g y3 (v2 + (nI 1)) σ1) := by
  rcases hg with rfl | rfl | rfl <;> exact (ts_unf E_X1_wordsKept tb_X1_wordsKept [4] 21 _).trans rfl
noncomputable def H_X1_peopleInside_4 (g : Nat) (v1 : Int32) (v2 : Int32) (σ : ts_S) : Option ts_A := ts_R E_X1_peopleInside tb_X1_peopleInside (4, [some (.inr (.inr (.inl (g, 0)))), some (.inl v1), some (.inl v2)], [], σ)
set_option maxRecDepth 100000 in
set_option maxHeartbeats 2000000 in
theorem e_X1_peopleInside {g : Nat} (hg : ts_q g) (σ : ts_S) : F_X1_peopleInside [.inr (.inr (.inl (g, 0)))] σ = (H_X1_peopleInside_4 g (nI 0) (nI 0) σ) := by
  rcases hg with rfl | rfl | rfl <;> exact (ts_unf E_X1_peopleInside tb_X1_peopleInside [4] 27 _).trans rfl
set_option maxRecDepth 100000 in
set_option maxHeartbeats 2000000 in
theorem h_X1_peopleInside_4 {g : Nat} (hg : ts_q g) (v1 : Int32) (v2 : Int32) (σ : ts_S) : H_X1_peopleInside_4 g v1 v2 σ = (if (σ g 0 10) ≤ v2 then (some (some (.inl v1), σ)) else ts_ck v2 6 <| if (σ g 8 (v2.toNatClampNeg)) = (-1) then (H_X1_peopleInside_4 g v1 (v2 + (nI 1)) σ) else ts_ni (v1 ||| ((nI 1) <<< (v2 &&& nI 31))) fun y1 => H_X1_peopleInside_4 g y1 (v2 + (nI 1)) σ) := by
  rcases hg with rfl | rfl | rfl <;> exact (ts_unf E_X1_peopleInside tb_X1_peopleInside [4] 27 _).trans rfl
noncomputable def H_X1_peopleWithoutWords_4 (g : Nat) (v1 : Int32) (v2 : Int32) (σ : ts_S) : Option ts_A := ts_R E_X1_peopleWithoutWords tb_X1_peopleWithoutWords (4, [some (.inr (.inr (.inl (g, 0)))), some (.inl v1), some (.inl v2)], [], σ)
set_option maxRecDepth 100000 in
set_option maxHeartbeats 2000000 in
theorem e_X1_peopleWithoutWords {g : Nat} (hg : ts_q g) (σ : ts_S) : F_X1_peopleWithoutWords [.inr (.inr (.inl (g, 0)))] σ = (H_X1_peopleWithoutWords_4 g (nI 0) (nI 0) σ) := by
  rcases hg with rfl | rfl | rfl <;> exact (ts_unf E_X1_peopleWithoutWords tb_X1_peopleWithoutWords [4] 26 _).trans rfl
set_option maxRecDepth 100000 in
set_option maxHeartbeats 2000000 in
theorem h_X1_peopleWithoutWords_4 {g : Nat} (hg : ts_q g) (v1 : Int32) (v2 : Int32) (σ : ts_S) : H_X1_peopleWithoutWords_4 g v1 v2 σ = (if (σ g 0 10) ≤ v2 then (some (some (.inl v1), σ)) else ts_ck v2 6 <| if (σ g 7 (v2.toNatClampNeg)) = nI 0 then (ts_ni (v1 ||| ((nI 1) <<< (v2 &&& nI 31))) fun y1 => H_X1_peopleWithoutWords_4 g y1 (v2 + (nI 1)) σ) else H_X1_peopleWithoutWords_4 g v1 (v2 + (nI 1)) σ) := by
  rcases hg with rfl | rfl | rfl <;> exact (ts_unf E_X1_peopleWithoutWords tb_X1_peopleWithoutWords [4] 26 _).trans rfl
noncomputable def H_X1_wearOfAll_4 (g : Nat) (v1 : Int32) (v2 : Int32) (σ : ts_S) : Option ts_A := ts_R E_X1_wearOfAll tb_X1_wearOfAll (4, [some (.inr (.inr (.inl (g, 0)))), some (.inl v1), some (.inl v2)], [], σ)
set_option maxRecDepth 100000 in
set_option maxHeartbeats 2000000 in
theorem e_X1_wearOfAll {g : Nat} (hg : ts_q g) (σ : ts_S) : F_X1_wearOfAll [.inr (.inr (.inl (g, 0)))] σ = (H_X1_wearOfAll_4 g (nI 0) (nI 0) σ) := by
  rcases hg with rfl | rfl | rfl <;> exact (ts_unf E_X1_wearOfAll tb_X1_wearOfAll [4] 22 _).trans rfl
set_option maxRecDepth 100000 in
set_option maxHeartbeats 2000000 in
theorem h_X1_wearOfAll_4 {g : Nat} (hg : ts_q g) (v1 : Int32) (v2 : Int32) (σ : ts_S) : H_X1_wearOfAll_4 g v1 v2 σ = (if (σ g 0 4) ≤ v2 then (some (some (.inl v1), σ)) else ts_ck v2 8 <| ts_ni (v1 + (σ g 3 (v2.toNatClampNeg))) fun y1 => H_X1_wearOfAll_4 g y1 (v2 + (nI 1)) σ) := by
  rcases hg with rfl | rfl | rfl <;> exact (ts_unf E_X1_wearOfAll tb_X1_wearOfAll [4] 22 _).trans rfl
noncomputable def H_X1_keptInAll_4 (g : Nat) (v1 : Int32) (v2 : Int32) (σ : ts_S) : Option ts_A := ts_R E_X1_keptInAll tb_X1_keptInAll (4, [some (.inr (.inr (.inl (g, 0)))), some (.inl v1), some (.inl v2)], [], σ)
set_option maxRecDepth 100000 in
set_option maxHeartbeats 2000000 in
theorem e_X1_keptInAll {g : Nat} (hg : ts_q g) (σ : ts_S) : F_X1_keptInAll [.inr (.inr (.inl (g, 0)))] σ = (H_X1_keptInAll_4 g (nI 0) (nI 0) σ) := by
  rcases hg with rfl | rfl | rfl <;> exact (ts_unf E_X1_keptInAll tb_X1_keptInAll [4] 22 _).trans rfl
set_option maxRecDepth 100000 in
set_option maxHeartbeats 2000000 in
theorem h_X1_keptInAll_4 {g : Nat} (hg : ts_q g) (v1 : Int32) (v2 : Int32) (σ : ts_S) : H_X1_keptInAll_4 g v1 v2 σ = (if (σ g 0 4) ≤ v2 then (some (some (.inl v1), σ)) else ts_ck v2 8 <| ts_ni (v1 + (σ g 5 (v2.toNatClampNeg))) fun y1 => H_X1_keptInAll_4 g y1 (v2 + (nI 1)) σ) := by
  rcases hg with rfl | rfl | rfl <;> exact (ts_unf E_X1_keptInAll tb_X1_keptInAll [4] 22 _).trans rfl
noncomputable def H_X1_spotsInUse_4 (g : Nat) (v1 : Int32) (v2 : Int32) (σ : ts_S) : Option ts_A := ts_R E_X1_spotsInUse tb_X1_spotsInUse (4, [some (.inr (.inr (.inl (g, 0)))), some (.inl v1), some (.inl v2)], [], σ)
set_option maxRecDepth 100000 in
set_option maxHeartbeats 2000000 in
theorem e_X1_spotsInUse {g : Nat} (hg : ts_q g) (σ : ts_S) : F_X1_spotsInUse [.inr (.inr (.inl (g, 0)))] σ = (H_X1_spotsInUse_4 g (nI 0) (nI 0) σ) := by
  rcases hg with rfl | rfl | rfl <;> exact (ts_unf E_X1_spotsInUse tb_X1_spotsInUse [4] 21 _).trans rfl
set_option maxRecDepth 100000 in
set_option maxHeartbeats 2000000 in
theorem h_X1_spotsInUse_4 {g : Nat} (hg : ts_q g) (v1 : Int32) (v2 : Int32) (σ : ts_S) : H_X1_spotsInUse_4 g v1 v2 σ = (if (nI 10) ≤ v2 then (some (some (.inl v1), σ)) else ts_ck v2 10 <| if (σ g 10 (v2.toNatClampNeg)) = (-1) then (H_X1_spotsInUse_4 g v1 (v2 + (nI 1)) σ) else H_X1_spotsInUse_4 g (v1 + (nI 1)) (v2 + (nI 1)) σ) := by
  rcases hg with rfl | rfl | rfl <;> exact (ts_unf E_X1_spotsInUse tb_X1_spotsInUse [4] 21 _).trans rfl
set_option maxRecDepth 100000 in
set_option maxHeartbeats 2000000 in
theorem e_X2_isMissing (a1 : Int32) (σ : ts_S) : F_X2_isMissing [.inr (.inr (.inl (5, 0))), .inl a1] σ = (ts_ck a1 4 <| if (σ 5 1 (a1.toNatClampNeg)) = nI 0 then (some (some (.inl (nI 1)), σ)) else some (some (.inl (nI 0)), σ)) := by
  exact (ts_unf E_X2_isMissing tb_X2_isMissing [] 12 _).trans rfl
noncomputable def H_X2_layOut_17 (v1 : Int32) (v2 : Int32) (v3 : Int32) (v4 : Int32) (σ : ts_S) : Option ts_A := ts_R E_X2_layOut tb_X2_layOut (17, [some (.inr (.inr (.inl (5, 0)))), some (.inl v1), some (.inl v2), some (.inl v3), some (.inl v4)], [], σ)
set_option maxRecDepth 100000 in
set_option maxHeartbeats 2000000 in
theorem e_X2_layOut (a1 : Int32) (a2 : Int32) (a3 : Int32) (σ : ts_S) : F_X2_layOut [.inr (.inr (.inl (5, 0))), .inl a1, .inl a2, .inl a3] σ = (ts_ck a1 4 <| ts_nw (ts_up σ 5 1 (a1.toNatClampNeg) a2) fun σ1 => ts_ck a1 4 <| ts_nw (ts_up σ1 5 2 (a1.toNatClampNeg) a3) fun σ2 => H_X2_layOut_17 a1 a2 a3 (nI 0) σ2) := by
  exact (ts_unf E_X2_layOut tb_X2_layOut [17] 30 _).trans rfl
set_option maxRecDepth 100000 in
set_option maxHeartbeats 2000000 in
theorem h_X2_layOut_17 (v1 : Int32) (v2 : Int32) (v3 : Int32) (v4 : Int32) (σ : ts_S) : H_X2_layOut_17 v1 v2 v3 v4 σ = (if v3 ≤ v4 then (some (none, σ)) else ts_ck ((v1 * (nI 40)) + v4) 160 <| ts_nw (ts_up σ 5 3 (((v1 * (nI 40)) + v4).toNatClampNeg) (nI 0)) fun σ1 => H_X2_layOut_17 v1 v2 v3 (v4 + (nI 1)) σ1) := by
  exact (ts_unf E_X2_layOut tb_X2_layOut [17] 30 _).trans rfl
set_option maxRecDepth 100000 in
set_option maxHeartbeats 2000000 in
theorem e_X2_numberAt (a1 : Int32) (a2 : Int32) (σ : ts_S) : F_X2_numberAt [.inr (.inr (.inl (5, 0))), .inl a1, .inl a2] σ = (ts_ck ((a1 * (nI 40)) + a2) 160 <| some (some (.inl (σ 5 3 (((a1 * (nI 40)) + a2).toNatClampNeg))), σ)) := by
  exact (ts_unf E_X2_numberAt tb_X2_numberAt [] 12 _).trans rfl
set_option maxRecDepth 100000 in
set_option maxHeartbeats 2000000 in
theorem e_X2_lowestBits (a1 : Int32) (a2 : Int32) (σ : ts_S) : F_X2_lowestBits [.inl a1, .inl a2] σ = (if a1 = nI 8 then (some (some (.inl ((Int32.toInt8 a2).toInt32)), σ)) else if a1 = nI 16 then (some (some (.inl ((Int32.toInt16 a2).toInt32)), σ)) else some (some (.inl a2), σ)) := by
  exact (ts_unf E_X2_lowestBits tb_X2_lowestBits [] 13 _).trans rfl
set_option maxRecDepth 100000 in
set_option maxHeartbeats 2000000 in
theorem e_X2_put (a1 : Int32) (a2 : Int32) (a3 : Int32) (σ : ts_S) : F_X2_put [.inr (.inr (.inl (5, 0))), .inl a1, .inl a2, .inl a3] σ = (ts_ck a1 4 <| ts_bi (F_X2_lowestBits [.inl (σ 5 1 (a1.toNatClampNeg)), .inl a3] σ) fun x2 σ1 => ts_ck ((a1 * (nI 40)) + a2) 160 <| ts_nw (ts_up σ1 5 3 (((a1 * (nI 40)) + a2).toNatClampNeg) x2) fun σ3 => some (none, σ3)) := by
  exact (ts_unf E_X2_put tb_X2_put [] 18 _).trans rfl
set_option maxRecDepth 100000 in
set_option maxHeartbeats 2000000 in
theorem e_X2_hasRange (a1 : Int32) (a2 : Int32) (a3 : Int32) (σ : ts_S) : F_X2_hasRange [.inr (.inr (.inl (5, 0))), .inl a1, .inl a2, .inl a3] σ = (if a2 < nI 0 then (some (some (.inl (nI 0)), σ)) else if a3 < nI 0 then (some (some (.inl (nI 0)), σ)) else ts_ck a1 4 <| if (σ 5 2 (a1.toNatClampNeg)) < a3 then (some (some (.inl (nI 0)), σ)) else ts_ck a1 4 <| if ((σ 5 2 (a1.toNatClampNeg)) - a3) < a2 then (some (some (.inl (nI 0)), σ)) else some (some (.inl (nI 1)), σ)) := by
  exact (ts_unf E_X2_hasRange tb_X2_hasRange [] 25 _).trans rfl
set_option maxRecDepth 100000 in
set_option maxHeartbeats 2000000 in
theorem e_X2_move (a1 : Int32) (a2 : Int32) (a3 : Int32) (a4 : Int32) (a5 : Int32) (σ : ts_S) : F_X2_move [.inr (.inr (.inl (5, 0))), .inl a1, .inl a2, .inl a3, .inl a4, .inl a5] σ = (ts_cpy σ 160 160 5 3 ((a1 * (nI 40)) + a2) 5 3 ((a3 * (nI 40)) + a4) a5 fun σ1 => some (none, σ1)) := by
  exact (ts_unf E_X2_move tb_X2_move [] 20 _).trans rfl
set_option maxRecDepth 100000 in
set_option maxHeartbeats 2000000 in
theorem e_X2_admits (a1 : Int32) (a2 : Int32) (a3 : Int32) (σ : ts_S) : F_X2_admits [.inr (.inr (.inl (5, 0))), .inl a1, .inl a2, .inl a3] σ = (ts_bi (F_X2_numberAt [.inr (.inr (.inl (5, 0))), .inl a1, .inl a2] σ) fun x2 σ1 => if x2 = (-1) then (some (some (.inl (nI 1)), σ1)) else if x2 = a3 then (some (some (.inl (nI 1)), σ1)) else some (some (.inl (nI 0)), σ1)) := by
  exact (ts_unf E_X2_admits tb_X2_admits [] 18 _).trans rfl
noncomputable def H_X3_append_21 (v1 : Int32) (v2 : Int32) (v3 : Int32) (σ : ts_S) : Option ts_A := ts_R E_X3_append tb_X3_append (21, [some (.inr (.inr (.inl (4, 0)))), some (.inl v1), some (.inl v2), some (.inl v3)], [], σ)
set_option maxRecDepth 100000 in
set_option maxHeartbeats 2000000 in
theorem e_X3_append (a1 : Int32) (a2 : Int32) (σ : ts_S) : F_X3_append [.inr (.inr (.inl (4, 0))), .inl a1, .inl a2] σ = (if a2 < nI 0 then (some (some (.inl (nI 0)), σ)) else if a2 ≤ ((nI 120) - (σ 4 0 1)) then (ts_ni (a2 - (nI 1)) fun y1 => H_X3_append_21 a1 a2 y1 σ) else some (some (.inl (nI 0)), σ)) := by
  exact (ts_unf E_X3_append tb_X3_append [21] 41 _).trans rfl
set_option maxRecDepth 100000 in
set_option maxHeartbeats 2000000 in
theorem h_X3_append_21 (v1 : Int32) (v2 : Int32) (v3 : Int32) (σ : ts_S) : H_X3_append_21 v1 v2 v3 σ = (if v3 < nI 0 then (some (some (.inl (nI 1)), σ)) else ts_ck (σ 4 0 1) 120 <| ts_nw (ts_up σ 4 1 ((σ 4 0 1).toNatClampNeg) (((Int32.toUInt32 v1 >>> (Int32.toUInt32 ((nI 8) * v3) &&& Int32.toUInt32 31)).toInt32) &&& (nI 255))) fun σ1 => ts_nw (ts_up σ1 4 0 1 ((σ1 4 0 1) + (nI 1))) fun σ2 => H_X3_append_21 v1 v2 (v3 + (-1)) σ2) := by
  exact (ts_unf E_X3_append tb_X3_append [21] 41 _).trans rfl
set_option maxRecDepth 100000 in
set_option maxHeartbeats 2000000 in
theorem e_X3_isLetter (a1 : Int32) (σ : ts_S) : F_X3_isLetter [.inl a1] σ = (if a1 < (nI 97) then (some (some (.inl (nI 0)), σ)) else if (nI 122) < a1 then (some (some (.inl (nI 0)), σ)) else some (some (.inl (nI 1)), σ)) := by
  exact (ts_unf E_X3_isLetter tb_X3_isLetter [] 13 _).trans rfl
set_option maxRecDepth 100000 in
set_option maxHeartbeats 2000000 in
theorem e_X3_isDigit (a1 : Int32) (σ : ts_S) : F_X3_isDigit [.inl a1] σ = (if a1 < (nI 48) then (some (some (.inl (nI 0)), σ)) else if (nI 57) < a1 then (some (some (.inl (nI 0)), σ)) else some (some (.inl (nI 1)), σ)) := by
  exact (ts_unf E_X3_isDigit tb_X3_isDigit [] 13 _).trans rfl
noncomputable def H_X3_readToken_8 (σ : ts_S) : Option ts_A := ts_R E_X3_readToken tb_X3_readToken (8, [some (.inr (.inr (.inl (4, 0))))], [], σ)
noncomputable def H_X3_readToken_157 (σ : ts_S) : Option ts_A := ts_R E_X3_readToken tb_X3_readToken (157, [some (.inr (.inr (.inl (4, 0))))], [], σ)
noncomputable def H_X3_readToken_93 (σ : ts_S) : Option ts_A := ts_R E_X3_readToken tb_X3_readToken (93, [some (.inr (.inr (.inl (4, 0))))], [], σ)
set_option maxRecDepth 100000 in
set_option maxHeartbeats 2000000 in
theorem e_X3_readToken (σ : ts_S) : F_X3_readToken [.inr (.inr (.inl (4, 0)))] σ = (ts_nw (ts_up σ 4 0 3 (σ 4 0 4)) fun σ1 => H_X3_readToken_8 σ1) := by
  exact (ts_unf E_X3_readToken tb_X3_readToken [8, 93, 157] 135 _).trans rfl
set_option maxRecDepth 100000 in
set_option maxHeartbeats 2000000 in
theorem h_X3_readToken_8 (σ : ts_S) : H_X3_readToken_8 σ = (if (σ 4 0 1) ≤ (σ 4 0 3) then (ts_nw (ts_up σ 4 0 4 (σ 4 0 3)) fun σ1 => if (σ1 4 0 3) < (σ1 4 0 1) then (ts_ck (σ1 4 0 3) 120 <| ts_bi (F_X3_isLetter [.inl (σ1 4 1 ((σ1 4 0 3).toNatClampNeg))] σ1) fun x3 σ2 => if x3 = nI 0 then (ts_ck (σ2 4 0 3) 120 <| ts_bi (F_X3_isDigit [.inl (σ2 4 1 ((σ2 4 0 3).toNatClampNeg))] σ2) fun x5 σ4 => if x5 = nI 0 then (ts_ck (σ4 4 0 3) 120 <| if (σ4 4 1 ((σ4 4 0 3).toNatClampNeg)) = (nI 59) then (ts_nw (ts_up σ4 4 0 2 (nI 3)) fun σ6 => ts_nw (ts_up σ6 4 0 4 ((σ6 4 0 4) + (nI 1))) fun σ7 => some (none, σ7)) else ts_nw (ts_up σ4 4 0 2 (nI 4)) fun σ8 => ts_nw (ts_up σ8 4 0 4 ((σ8 4 0 4) + (nI 1))) fun σ9 => some (none, σ9)) else ts_nw (ts_up σ4 4 0 2 (nI 2)) fun σ10 => ts_nw (ts_up σ10 4 0 5 (nI 0)) fun σ11 => H_X3_readToken_157 σ11) else ts_nw (ts_up σ2 4 0 2 (nI 1)) fun σ12 => H_X3_readToken_93 σ12) else ts_nw (ts_up σ1 4 0 2 (nI 0)) fun σ13 => some (none, σ13)) else ts_ck (σ 4 0 3) 120 <| if (σ 4 1 ((σ 4 0 3).toNatClampNeg)) = (nI 32) then (ts_nw (ts_up σ 4 0 3 ((σ 4 0 3) + (nI 1))) fun σ14 => H_X3_readToken_8 σ14) else ts_nw (ts_up σ 4 0 4 (σ 4 0 3)) fun σ15 => if (σ15 4 0 3) < (σ15 4 0 1) then (ts_ck (σ15 4 0 3) 120 <| ts_bi (F_X3_isLetter [.inl (σ15 4 1 ((σ15 4 0 3).toNatClampNeg))] σ15) fun x17 σ16 => if x17 = nI 0 then (ts_ck (σ16 4 0 3) 120 <| ts_bi (F_X3_isDigit [.inl (σ16 4 1 ((σ16 4 0 3).toNatClampNeg))] σ16) fun x19 σ18 => if x19 = nI 0 then (ts_ck (σ18 4 0 3) 120 <| if (σ18 4 1 ((σ18 4 0 3).toNatClampNeg)) = (nI 59) then (ts_nw (ts_up σ18 4 0 2 (nI 3)) fun σ20 => ts_nw (ts_up σ20 4 0 4 ((σ20 4 0 4) + (nI 1))) fun σ21 => some (none, σ21)) else ts_nw (ts_up σ18 4 0 2 (nI 4)) fun σ22 => ts_nw (ts_up σ22 4 0 4 ((σ22 4 0 4) + (nI 1))) fun σ23 => some (none, σ23)) else ts_nw (ts_up σ18 4 0 2 (nI 2)) fun σ24 => ts_nw (ts_up σ24 4 0 5 (nI 0)) fun σ25 => H_X3_readToken_157 σ25) else ts_nw (ts_up σ16 4 0 2 (nI 1)) fun σ26 => H_X3_readToken_93 σ26) else ts_nw (ts_up σ15 4 0 2 (nI 0)) fun σ27 => some (none, σ27)) := by
  exact (ts_unf E_X3_readToken tb_X3_readToken [8, 93, 157] 135 _).trans rfl
set_option maxRecDepth 100000 in
set_option maxHeartbeats 2000000 in
theorem h_X3_readToken_157 (σ : ts_S) : H_X3_readToken_157 σ = (if (σ 4 0 1) ≤ (σ 4 0 4) then (some (none, σ)) else ts_ck (σ 4 0 4) 120 <| ts_bi (F_X3_isDigit [.inl (σ 4 1 ((σ 4 0 4).toNatClampNeg))] σ) fun x2 σ1 => if x2 = nI 0 then (some (none, σ1)) else ts_ck (σ1 4 0 4) 120 <| ts_bi (F_J9_min_7cf53 [.inl ((((nI 10) * (σ1 4 0 5)) + (σ1 4 1 ((σ1 4 0 4).toNatClampNeg))) - (nI 48)), .inl (nI 10000)] σ1) fun x4 σ3 => ts_nw (ts_up σ3 4 0 5 x4) fun σ5 => ts_nw (ts_up σ5 4 0 4 ((σ5 4 0 4) + (nI 1))) fun σ6 => H_X3_readToken_157 σ6) := by
  exact (ts_unf E_X3_readToken tb_X3_readToken [8, 93, 157] 135 _).trans rfl
set_option maxRecDepth 100000 in
set_option maxHeartbeats 2000000 in
theorem h_X3_readToken_93 (σ : ts_S) : H_X3_readToken_93 σ = (if (σ 4 0 1) ≤ (σ 4 0 4) then (some (none, σ)) else ts_ck (σ 4 0 4) 120 <| ts_bi (F_X3_isLetter [.inl (σ 4 1 ((σ 4 0 4).toNatClampNeg))] σ) fun x2 σ1 => if x2 = nI 0 then (some (none, σ1)) else ts_nw (ts_up σ1 4 0 4 ((σ1 4 0 4) + (nI 1))) fun σ3 => H_X3_readToken_93 σ3) := by
  exact (ts_unf E_X3_readToken tb_X3_readToken [8, 93, 157] 135 _).trans rfl
set_option maxRecDepth 100000 in
set_option maxHeartbeats 2000000 in
theorem e_X3_isNumber (a1 : Int32) (σ : ts_S) : F_X3_isNumber [.inr (.inr (.inl (4, 0))), .inl a1] σ = (if (σ 4 0 2) = (nI 2) then (if a1 < (σ 4 0 5) then (some (some (.inl (nI 0)), σ)) else some (some (.inl (nI 1)), σ)) else some (some (.inl (nI 0)), σ)) := by
  exact (ts_unf E_X3_isNumber tb_X3_isNumber [] 15 _).trans rfl
set_option maxRecDepth 100000 in
set_option maxHeartbeats 2000000 in
theorem e_X3_readPerson (σ : ts_S) : F_X3_readPerson [.inr (.inr (.inl (4, 0))), .inr (.inr (.inl (2, 0)))] σ = (ts_bi (F_X1_addPerson [.inr (.inr (.inl (2, 0))), .inl (nI 0)] σ) fun x2 σ1 => if x2 = (-1) then (some (some (.inl (nI 0)), σ1)) else ts_bv (F_X3_readToken [.inr (.inr (.inl (4, 0)))] σ1) fun σ3 => ts_bi (F_X3_isWord [.inr (.inr (.inl (4, 0))), .inr (.inr (.inr 11))] σ3) fun x5 σ4 => if x5 = nI 0 then (ts_bi (F_X3_isWord [.inr (.inr (.inl (4, 0))), .inr (.inr (.inr 12))] σ4) fun x7 σ6 => if x7 = nI 0 then (some (some (.inl (nI 1)), σ6)) else ts_bv (F_X3_readToken [.inr (.inr (.inl (4, 0)))] σ6) fun σ8 => ts_bi (F_X3_isNumber [.inr (.inr (.inl (4, 0))), .inl ((σ8 2 0 4) - (nI 1))] σ8) fun x10 σ9 => if x10 = nI 0 then (some (some (.inl (nI 0)), σ9)) else ts_ck x2 6 <| ts_nw (ts_up σ9 2 8 (x2.toNatClampNeg) (σ9 4 0 5)) fun σ11 => ts_bv (F_X3_readToken [.inr (.inr (.inl (4, 0)))] σ11) fun σ12 => some (some (.inl (nI 1)), σ12)) else ts_bv (F_X3_readToken [.inr (.inr (.inl (4, 0)))] σ4) fun σ13 => ts_bi (F_X3_isNumber [.inr (.inr (.inl (4, 0))), .inl (nI 4095)] σ13) fun x15 σ14 => if x15 = nI 0 then (some (some (.inl (nI 0)), σ14)) else ts_ck x2 6 <| ts_nw (ts_up σ14 2 7 (x2.toNatClampNeg) (σ14 4 0 5)) fun σ16 => ts_bv (F_X3_readToken [.inr (.inr (.inl (4, 0)))] σ16) fun σ17 => ts_bi (F_X3_isWord [.inr (.inr (.inl (4, 0))), .inr (.inr (.inr 12))] σ17) fun x19 σ18 => if x19 = nI 0 then (some (some (.inl (nI 1)), σ18)) else ts_bv (F_X3_readToken [.inr (.inr (.inl (4, 0)))] σ18) fun σ20 => ts_bi (F_X3_isNumber [.inr (.inr (.inl (4, 0))), .inl ((σ20 2 0 4) - (nI 1))] σ20) fun x22 σ21 => if x22 = nI 0 then (some (some (.inl (nI 0)), σ21)) else ts_ck x2 6 <| ts_nw (ts_up σ21 2 8 (x2.toNatClampNeg) (σ21 4 0 5)) fun σ23 => ts_bv (F_X3_readToken [.inr (.inr (.inl (4, 0)))] σ23) fun σ24 => some (some (.inl (nI 1)), σ24)) := by
  exact (ts_unf E_X3_readPerson tb_X3_readPerson [] 59 _).trans rfl
set_option maxRecDepth 100000 in
set_option maxHeartbeats 2000000 in
theorem e_X3_readCrossing (σ : ts_S) : F_X3_readCrossing [.inr (.inr (.inl (4, 0))), .inr (.inr (.inl (2, 0)))] σ = (ts_bv (F_X3_readToken [.inr (.inr (.inl (4, 0)))] σ) fun σ1 => ts_bi (F_X3_isNumber [.inr (.inr (.inl (4, 0))), .inl (nI 5)] σ1) fun x3 σ2 => if x3 = nI 0 then (some (some (.inl (nI 0)), σ2)) else ts_ni (σ2 4 0 5) fun y4 => ts_bv (F_X3_readToken [.inr (.inr (.inl (4, 0)))] σ2) fun σ5 => ts_bi (F_X3_isNumber [.inr (.inr (.inl (4, 0))), .inl (nI 5)] σ5) fun x7 σ6 => if x7 = nI 0 then (some (some (.inl (nI 0)), σ6)) else ts_ni (σ6 4 0 5) fun y8 => ts_bv (F_X3_readToken [.inr (.inr (.inl (4, 0)))] σ6) fun σ9 => ts_bi (F_X3_isNumber [.inr (.inr (.inl (4, 0))), .inl (nI 7)] σ9) fun x11 σ10 => if x11 = nI 0 then (some (some (.inl (nI 0)), σ10)) else ts_ck y4 6 <| ts_nw (ts_up σ10 2 1 (y4.toNatClampNeg) (((nI 10) * y8) + (σ10 4 0 5))) fun σ12 => ts_bv (F_X3_readToken [.inr (.inr (.inl (4, 0)))] σ12) fun σ13 => some (some (.inl (nI 1)), σ13)) := by
  exact (ts_unf E_X3_readCrossing tb_X3_readCrossing [] 47 _).trans rfl
