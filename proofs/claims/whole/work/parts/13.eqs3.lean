/-! the methods' equations, part 3 -/
set_option maxRecDepth 100000 in
set_option maxHeartbeats 2000000 in
theorem e_X4_count (a1 : Int32) (σ : ts_S) : F_X4_count [.inr (.inr (.inl (0, 0))), .inl a1] σ = (if a1 = nI 0 then (some (some (.inl (σ 1 0 2)), σ)) else if a1 = nI 1 then (some (some (.inl (σ 1 0 4)), σ)) else if a1 = nI 2 then (some (some (.inl (σ 1 0 10)), σ)) else if a1 = nI 3 then (some (some (.inl (σ 1 0 1)), σ)) else if a1 = nI 4 then (ts_bi (F_X1_keptInAll [.inr (.inr (.inl (1, 0)))] σ) fun x2 σ1 => some (some (.inl x2), σ1)) else if a1 = nI 5 then (some (some (.inl (σ 4 0 1)), σ)) else if a1 = nI 6 then (some (some (.inl (σ 1 0 3)), σ)) else if a1 = nI 7 then (ts_bi (F_X1_spotsInUse [.inr (.inr (.inl (1, 0)))] σ) fun x4 σ3 => some (some (.inl x4), σ3)) else ts_bi (F_X4_tell [.inr (.inr (.inl (0, 0))), .inl (nI 0)] σ) fun x6 σ5 => some (some (.inl x6), σ5)) := by
  exact (ts_unf E_X4_count tb_X4_count [] 41 _).trans rfl
noncomputable def H_X4_status_9 (v1 : Int32) (v2 : Int32) (v3 : Int32) (σ : ts_S) : Option ts_A := ts_R E_X4_status tb_X4_status (9, [some (.inr (.inr (.inl (0, 0)))), some (.inl v1), some (.inl v2), some (.inl v3)], [], σ)
set_option maxRecDepth 100000 in
set_option maxHeartbeats 2000000 in
theorem e_X4_status (a1 : Int32) (σ : ts_S) : F_X4_status [.inr (.inr (.inl (0, 0))), .inl a1] σ = (if a1 = (-1) then (H_X4_status_9 a1 (nI 0) (nI 0) σ) else ts_bi (F_X4_isBelow [.inl a1, .inl (nI 7)] σ) fun x2 σ1 => if x2 = nI 0 then (ts_bi (F_X4_tell [.inr (.inr (.inl (0, 0))), .inl (nI 0)] σ1) fun x4 σ3 => some (some (.inl x4), σ3)) else ts_ck a1 7 <| some (some (.inl (σ1 0 1 (a1.toNatClampNeg))), σ1)) := by
  exact (ts_unf E_X4_status tb_X4_status [9] 37 _).trans rfl
set_option maxRecDepth 100000 in
set_option maxHeartbeats 2000000 in
theorem h_X4_status_9 (v1 : Int32) (v2 : Int32) (v3 : Int32) (σ : ts_S) : H_X4_status_9 v1 v2 v3 σ = (if (nI 7) ≤ v3 then (some (some (.inl v2), σ)) else ts_ck v3 7 <| ts_ni (v2 + (σ 0 1 (v3.toNatClampNeg))) fun y1 => H_X4_status_9 v1 y1 (v3 + (nI 1)) σ) := by
  exact (ts_unf E_X4_status tb_X4_status [9] 37 _).trans rfl
set_option maxRecDepth 100000 in
theorem e_X5_finding_6 (b : Int32) (a1 : Int32) (σ : ts_S) : ts_R E_X5_finding tb_X5_finding (6, [some (.inr (.inr (.inl (6, 0)))), some (.inl a1)], [.inl b, .inr (.inr (.inl (6, 4)))], σ) = (ts_ck ((b - a1) + (nI 1)) 8 <| ts_ck ((b - a1) + (nI 1)) 8 <| ts_nw (ts_up σ 6 4 (((b - a1) + (nI 1)).toNatClampNeg) ((σ 6 4 (((b - a1) + (nI 1)).toNatClampNeg)) + (nI 1))) fun σ1 => ts_ck (nI 0) 8 <| ts_ck (nI 0) 8 <| ts_nw (ts_up σ1 6 4 0 ((σ1 6 4 0) + (nI 1))) fun σ2 => some (some (.inl a1), σ2)) := by
  exact (ts_unf E_X5_finding tb_X5_finding [] 25 _).trans rfl
theorem e_X5_finding (a1 : Int32) (σ : ts_S) : F_X5_finding [.inr (.inr (.inl (6, 0))), .inl a1] σ = (ts_ck (((Int32.ofNat 4293967295) - a1) + (nI 1)) 8 <| ts_ck (((Int32.ofNat 4293967295) - a1) + (nI 1)) 8 <| ts_nw (ts_up σ 6 4 ((((Int32.ofNat 4293967295) - a1) + (nI 1)).toNatClampNeg) ((σ 6 4 ((((Int32.ofNat 4293967295) - a1) + (nI 1)).toNatClampNeg)) + (nI 1))) fun σ1 => ts_ck (nI 0) 8 <| ts_ck (nI 0) 8 <| ts_nw (ts_up σ1 6 4 0 ((σ1 6 4 0) + (nI 1))) fun σ2 => some (some (.inl a1), σ2)) := by
  refine Eq.trans ?_ (e_X5_finding_6 (Int32.ofNat 4293967295) a1 σ)
  exact (ts_unf E_X5_finding tb_X5_finding [6] 25 _).trans rfl
set_option maxRecDepth 100000 in
set_option maxHeartbeats 2000000 in
theorem e_X5_within (a1 : Int32) (a2 : Int32) (a3 : Int32) (σ : ts_S) : F_X5_within [.inl a1, .inl a2, .inl a3] σ = (if a1 < a2 then (some (some (.inl (nI 0)), σ)) else if a3 < a1 then (some (some (.inl (nI 0)), σ)) else some (some (.inl (nI 1)), σ)) := by
  exact (ts_unf E_X5_within tb_X5_within [] 13 _).trans rfl
set_option maxRecDepth 100000 in
set_option maxHeartbeats 2000000 in
theorem e_X5_become (a1 : Int32) (a2 : Int32) (σ : ts_S) : F_X5_become [.inr (.inr (.inl (6, 0))), .inl a1, .inl a2] σ = (ts_ck a1 111 <| ts_ni (σ 6 1 (a1.toNatClampNeg)) fun y1 => ts_ck a1 111 <| ts_nw (ts_up σ 6 1 (a1.toNatClampNeg) a2) fun σ2 => some (some (.inl y1), σ2)) := by
  exact (ts_unf E_X5_become tb_X5_become [] 15 _).trans rfl
noncomputable def H_X5_copyRow_2 (c1 : Nat) (c2 : Nat) (v2 : Int32) (σ : ts_S) : Option ts_A := ts_R E_X5_copyRow tb_X5_copyRow (2, [some (.inr (.inr (.inl (6, c1)))), some (.inr (.inr (.inl (6, c2)))), some (.inl v2)], [], σ)
set_option maxRecDepth 100000 in
set_option maxHeartbeats 2000000 in
theorem e_X5_copyRow {c1 : Nat} {c2 : Nat} (hc : ts_mq c1 c2) (σ : ts_S) : F_X5_copyRow [.inr (.inr (.inl (6, c1))), .inr (.inr (.inl (6, c2)))] σ = (H_X5_copyRow_2 c1 c2 (nI 0) σ) := by
  rcases hc with ⟨rfl, rfl⟩ | ⟨rfl, rfl⟩ | ⟨rfl, rfl⟩ | ⟨rfl, rfl⟩ <;> exact (ts_unf E_X5_copyRow tb_X5_copyRow [2] 17 _).trans rfl
set_option maxRecDepth 100000 in
set_option maxHeartbeats 2000000 in
theorem h_X5_copyRow_2 {c1 : Nat} {c2 : Nat} (hc : ts_mq c1 c2) (v2 : Int32) (σ : ts_S) : H_X5_copyRow_2 c1 c2 v2 σ = (if (nI 111) ≤ v2 then (some (none, σ)) else ts_ck v2 111 <| ts_ck v2 111 <| ts_nw (ts_up σ 6 c2 (v2.toNatClampNeg) (σ 6 c1 (v2.toNatClampNeg))) fun σ1 => H_X5_copyRow_2 c1 c2 (v2 + (nI 1)) σ1) := by
  rcases hc with ⟨rfl, rfl⟩ | ⟨rfl, rfl⟩ | ⟨rfl, rfl⟩ | ⟨rfl, rfl⟩ <;> exact (ts_unf E_X5_copyRow tb_X5_copyRow [2] 17 _).trans rfl
set_option maxRecDepth 100000 in
set_option maxHeartbeats 2000000 in
theorem e_X5_putBack (a1 : Int32) (σ : ts_S) : F_X5_putBack [.inr (.inr (.inl (6, 0))), .inl a1] σ = (ts_bv (F_X5_copyRow [.inr (.inr (.inl (6, 3))), .inr (.inr (.inl (6, 1)))] σ) fun σ1 => some (some (.inl a1), σ1)) := by
  exact (ts_unf E_X5_putBack tb_X5_putBack [] 10 _).trans rfl
set_option maxRecDepth 100000 in
set_option maxHeartbeats 2000000 in
theorem e_X5_orNone (a1 : Int32) (σ : ts_S) : F_X5_orNone [.inr (.inr (.inl (6, 0))), .inl a1] σ = (if nI 0 ≤ a1 then (some (some (.inl a1), σ)) else ts_bi (F_X5_finding [.inr (.inr (.inl (6, 0))), .inl (Int32.ofNat 4293967292)] σ) fun x2 σ1 => some (some (.inl x2), σ1)) := by
  exact (ts_unf E_X5_orNone tb_X5_orNone [] 11 _).trans rfl
noncomputable def H_X5_bits_4 (v0 : Int32) (v1 : Int32) (v2 : Int32) (σ : ts_S) : Option ts_A := ts_R E_X5_bits tb_X5_bits (4, [some (.inl v0), some (.inl v1), some (.inl v2)], [], σ)
set_option maxRecDepth 100000 in
set_option maxHeartbeats 2000000 in
theorem e_X5_bits (a1 : Int32) (σ : ts_S) : F_X5_bits [.inl a1] σ = (H_X5_bits_4 a1 (nI 0) a1 σ) := by
  exact (ts_unf E_X5_bits tb_X5_bits [4] 19 _).trans rfl
set_option maxRecDepth 100000 in
set_option maxHeartbeats 2000000 in
theorem h_X5_bits_4 (v0 : Int32) (v1 : Int32) (v2 : Int32) (σ : ts_S) : H_X5_bits_4 v0 v1 v2 σ = (if v2 = nI 0 then (some (some (.inl v1), σ)) else ts_ni (v2 &&& (v2 - (nI 1))) fun y1 => H_X5_bits_4 v0 (v1 + (nI 1)) y1 σ) := by
  exact (ts_unf E_X5_bits tb_X5_bits [4] 19 _).trans rfl
set_option maxRecDepth 100000 in
set_option maxHeartbeats 2000000 in
theorem e_X5_isSet (a1 : Int32) (σ : ts_S) : F_X5_isSet [.inl a1] σ = (ts_bi (F_X5_within [.inl a1, .inl (nI 0), .inl (nI 4095)] σ) fun x2 σ1 => if x2 = nI 0 ∨ x2 = nI 1 then some (some (.inl x2), σ1) else none) := by
  exact (ts_unf E_X5_isSet tb_X5_isSet [] 8 _).trans rfl
set_option maxRecDepth 100000 in
set_option maxHeartbeats 2000000 in
theorem e_X5_isWordNumber (a1 : Int32) (σ : ts_S) : F_X5_isWordNumber [.inl a1] σ = (ts_bi (F_X5_within [.inl a1, .inl (nI 0), .inl (nI 11)] σ) fun x2 σ1 => if x2 = nI 0 ∨ x2 = nI 1 then some (some (.inl x2), σ1) else none) := by
  exact (ts_unf E_X5_isWordNumber tb_X5_isWordNumber [] 8 _).trans rfl
set_option maxRecDepth 100000 in
set_option maxHeartbeats 2000000 in
theorem e_X5_isPlace (a1 : Int32) (σ : ts_S) : F_X5_isPlace [.inl a1] σ = (ts_bi (F_X5_within [.inl a1, .inl (nI 0), .inl (nI 5)] σ) fun x2 σ1 => if x2 = nI 0 ∨ x2 = nI 1 then some (some (.inl x2), σ1) else none) := by
  exact (ts_unf E_X5_isPlace tb_X5_isPlace [] 8 _).trans rfl
set_option maxRecDepth 100000 in
set_option maxHeartbeats 2000000 in
theorem e_X5_list (a1 : Int32) (a2 : Int32) (a3 : Int32) (σ : ts_S) : F_X5_list [.inr (.inr (.inl (6, 0))), .inl a1, .inl a2, .inl a3] σ = (ts_bi (F_X5_isPlace [.inl a1] σ) fun x2 σ1 => if x2 = nI 0 then (ts_bi (F_X5_finding [.inr (.inr (.inl (6, 0))), .inl (Int32.ofNat 4293967295)] σ1) fun x4 σ3 => some (some (.inl x4), σ3)) else ts_bi (F_X5_within [.inl a2, .inl (nI 0), .inl (nI 5)] σ1) fun x6 σ5 => if x6 = nI 0 then (ts_bi (F_X5_finding [.inr (.inr (.inl (6, 0))), .inl (Int32.ofNat 4293967295)] σ5) fun x8 σ7 => some (some (.inl x8), σ7)) else ts_bi (F_X5_within [.inl a3, .inl (nI 0), .inl (nI 7)] σ5) fun x10 σ9 => if x10 = nI 0 then (ts_bi (F_X5_finding [.inr (.inr (.inl (6, 0))), .inl (Int32.ofNat 4293967295)] σ9) fun x12 σ11 => some (some (.inl x12), σ11)) else ts_bi (F_X5_become [.inr (.inr (.inl (6, 0))), .inl ((nI 5) + a1), .inl (((nI 10) * a2) + a3)] σ9) fun x14 σ13 => some (some (.inl x14), σ13)) := by
  exact (ts_unf E_X5_list tb_X5_list [] 31 _).trans rfl
set_option maxRecDepth 100000 in
set_option maxHeartbeats 2000000 in
theorem e_X5_listed (a1 : Int32) (σ : ts_S) : F_X5_listed [.inr (.inr (.inl (6, 0))), .inl a1] σ = (ts_bi (F_X5_isPlace [.inl a1] σ) fun x2 σ1 => if x2 = nI 0 then (ts_bi (F_X5_finding [.inr (.inr (.inl (6, 0))), .inl (Int32.ofNat 4293967295)] σ1) fun x4 σ3 => some (some (.inl x4), σ3)) else ts_ck ((nI 5) + a1) 111 <| some (some (.inl (σ1 6 1 (((nI 5) + a1).toNatClampNeg))), σ1)) := by
  exact (ts_unf E_X5_listed tb_X5_listed [] 17 _).trans rfl
set_option maxRecDepth 100000 in
set_option maxHeartbeats 2000000 in
theorem e_X5_placeNow (σ : ts_S) : F_X5_placeNow [.inr (.inr (.inl (6, 0)))] σ = (ts_ck (nI 0) 111 <| some (some (.inl ((nI 5) + ((σ 6 1 0) - (σ 6 1 0) / (nI 6) * (nI 6)))), σ)) := by
  exact (ts_unf E_X5_placeNow tb_X5_placeNow [] 12 _).trans rfl
set_option maxRecDepth 100000 in
set_option maxHeartbeats 2000000 in
theorem e_X5_sillAt (a1 : Int32) (a2 : Int32) (σ : ts_S) : F_X5_sillAt [.inl a1, .inl a2] σ = (some (some (.inl (((nI 21) + ((nI 9) * a1)) + a2)), σ)) := by
  exact (ts_unf E_X5_sillAt tb_X5_sillAt [] 11 _).trans rfl
set_option maxRecDepth 100000 in
set_option maxHeartbeats 2000000 in
theorem e_X5_sillIs (a1 : Int32) (a2 : Int32) (σ : ts_S) : F_X5_sillIs [.inr (.inr (.inl (6, 0))), .inl a1, .inl a2] σ = (ts_bi (F_X5_sillAt [.inl a1, .inl a2] σ) fun x2 σ1 => ts_ck x2 111 <| some (some (.inl (σ1 6 1 (x2.toNatClampNeg))), σ1)) := by
  exact (ts_unf E_X5_sillIs tb_X5_sillIs [] 10 _).trans rfl
set_option maxRecDepth 100000 in
set_option maxHeartbeats 2000000 in
theorem e_X5_isSill (a1 : Int32) (σ : ts_S) : F_X5_isSill [.inr (.inr (.inl (6, 0))), .inl a1] σ = (ts_ck (nI 1) 111 <| ts_bi (F_X5_within [.inl a1, .inl (nI 0), .inl ((σ 6 1 1) - (nI 1))] σ) fun x2 σ1 => if x2 = nI 0 ∨ x2 = nI 1 then some (some (.inl x2), σ1) else none) := by
  exact (ts_unf E_X5_isSill tb_X5_isSill [] 13 _).trans rfl
set_option maxRecDepth 100000 in
set_option maxHeartbeats 2000000 in
theorem e_X5_personAt (a1 : Int32) (a2 : Int32) (σ : ts_S) : F_X5_personAt [.inl a1, .inl a2] σ = (some (some (.inl (((nI 93) + ((nI 3) * a1)) + a2)), σ)) := by
  exact (ts_unf E_X5_personAt tb_X5_personAt [] 11 _).trans rfl
set_option maxRecDepth 100000 in
set_option maxHeartbeats 2000000 in
theorem e_X5_personIs (a1 : Int32) (a2 : Int32) (σ : ts_S) : F_X5_personIs [.inr (.inr (.inl (6, 0))), .inl a1, .inl a2] σ = (ts_bi (F_X5_personAt [.inl a1, .inl a2] σ) fun x2 σ1 => ts_ck x2 111 <| some (some (.inl (σ1 6 1 (x2.toNatClampNeg))), σ1)) := by
  exact (ts_unf E_X5_personIs tb_X5_personIs [] 10 _).trans rfl
set_option maxRecDepth 100000 in
set_option maxHeartbeats 2000000 in
theorem e_X5_isPerson (a1 : Int32) (σ : ts_S) : F_X5_isPerson [.inr (.inr (.inl (6, 0))), .inl a1] σ = (ts_ck (nI 3) 111 <| ts_bi (F_X5_within [.inl a1, .inl (nI 0), .inl ((σ 6 1 3) - (nI 1))] σ) fun x2 σ1 => if x2 = nI 0 ∨ x2 = nI 1 then some (some (.inl x2), σ1) else none) := by
  exact (ts_unf E_X5_isPerson tb_X5_isPerson [] 13 _).trans rfl
set_option maxRecDepth 100000 in
set_option maxHeartbeats 2000000 in
theorem e_X5_isKind (a1 : Int32) (σ : ts_S) : F_X5_isKind [.inl a1] σ = (ts_bi (F_X5_within [.inl a1, .inl (nI 0), .inl (nI 6)] σ) fun x2 σ1 => if x2 = nI 0 ∨ x2 = nI 1 then some (some (.inl x2), σ1) else none) := by
  exact (ts_unf E_X5_isKind tb_X5_isKind [] 8 _).trans rfl
noncomputable def H_X5_comes_9 (v1 : Int32) (v2 : Int32) (v3 : Int32) (σ : ts_S) : Option ts_A := ts_R E_X5_comes tb_X5_comes (9, [some (.inr (.inr (.inl (6, 0)))), some (.inl v1), some (.inl v2), some (.inl v3)], [], σ)
set_option maxRecDepth 100000 in
set_option maxHeartbeats 2000000 in
theorem e_X5_comes (a1 : Int32) (σ : ts_S) : F_X5_comes [.inr (.inr (.inl (6, 0))), .inl a1] σ = (ts_ck (nI 1) 111 <| ts_ni (σ 6 1 1) fun y1 => H_X5_comes_9 a1 y1 (nI 0) σ) := by
  exact (ts_unf E_X5_comes tb_X5_comes [9] 39 _).trans rfl
set_option maxRecDepth 100000 in
set_option maxHeartbeats 2000000 in
theorem h_X5_comes_9 (v1 : Int32) (v2 : Int32) (v3 : Int32) (σ : ts_S) : H_X5_comes_9 v1 v2 v3 σ = (if (nI 9) ≤ v3 then (ts_bi (F_X5_sillAt [.inl v2, .inl (nI 0)] σ) fun x2 σ1 => ts_ck x2 111 <| ts_nw (ts_up σ1 6 1 (x2.toNatClampNeg) v1) fun σ3 => ts_ck (nI 1) 111 <| ts_ck (nI 1) 111 <| ts_nw (ts_up σ3 6 1 1 ((σ3 6 1 1) + (nI 1))) fun σ4 => some (some (.inl v2), σ4)) else ts_bi (F_X5_sillAt [.inl v2, .inl v3] σ) fun x6 σ5 => ts_ck x6 111 <| ts_nw (ts_up σ5 6 1 (x6.toNatClampNeg) (nI 0)) fun σ7 => H_X5_comes_9 v1 v2 (v3 + (nI 1)) σ7) := by
  exact (ts_unf E_X5_comes tb_X5_comes [9] 39 _).trans rfl
set_option maxRecDepth 100000 in
set_option maxHeartbeats 2000000 in
theorem e_X5_sill (a1 : Int32) (σ : ts_S) : F_X5_sill [.inr (.inr (.inl (6, 0))), .inl a1] σ = (ts_bi (F_X5_isKind [.inl a1] σ) fun x2 σ1 => if x2 = nI 0 then (ts_bi (F_X5_finding [.inr (.inr (.inl (6, 0))), .inl (Int32.ofNat 4293967295)] σ1) fun x4 σ3 => some (some (.inl x4), σ3)) else ts_ck (nI 1) 111 <| if (σ1 6 1 1) = (nI 8) then (ts_bi (F_X5_finding [.inr (.inr (.inl (6, 0))), .inl (Int32.ofNat 4293967294)] σ1) fun x6 σ5 => some (some (.inl x6), σ5)) else ts_bi (F_X5_comes [.inr (.inr (.inl (6, 0))), .inl a1] σ1) fun x8 σ7 => some (some (.inl x8), σ7)) := by
  exact (ts_unf E_X5_sill tb_X5_sill [] 24 _).trans rfl
set_option maxRecDepth 100000 in
set_option maxHeartbeats 2000000 in
theorem e_X5_onePersonMore (a1 : Int32) (σ : ts_S) : F_X5_onePersonMore [.inr (.inr (.inl (6, 0))), .inl a1] σ = (ts_ck (nI 3) 111 <| ts_ni (σ 6 1 3) fun y1 => ts_bi (F_X5_personAt [.inl y1, .inl (nI 0)] σ) fun x3 σ2 => ts_ck x3 111 <| ts_nw (ts_up σ2 6 1 (x3.toNatClampNeg) a1) fun σ4 => ts_bi (F_X5_personAt [.inl y1, .inl (nI 1)] σ4) fun x6 σ5 => ts_ck x6 111 <| ts_nw (ts_up σ5 6 1 (x6.toNatClampNeg) (-1)) fun σ7 => ts_bi (F_X5_personAt [.inl y1, .inl (nI 2)] σ7) fun x9 σ8 => ts_ck x9 111 <| ts_nw (ts_up σ8 6 1 (x9.toNatClampNeg) (nI 0)) fun σ10 => ts_ck (nI 3) 111 <| ts_ck (nI 3) 111 <| ts_nw (ts_up σ10 6 1 3 ((σ10 6 1 3) + (nI 1))) fun σ11 => some (some (.inl y1), σ11)) := by
  exact (ts_unf E_X5_onePersonMore tb_X5_onePersonMore [] 39 _).trans rfl
set_option maxRecDepth 100000 in
set_option maxHeartbeats 2000000 in
theorem e_X5_person (a1 : Int32) (σ : ts_S) : F_X5_person [.inr (.inr (.inl (6, 0))), .inl a1] σ = (ts_bi (F_X5_isSet [.inl a1] σ) fun x2 σ1 => if x2 = nI 0 then (ts_bi (F_X5_finding [.inr (.inr (.inl (6, 0))), .inl (Int32.ofNat 4293967295)] σ1) fun x4 σ3 => some (some (.inl x4), σ3)) else ts_ck (nI 3) 111 <| if (σ1 6 1 3) = (nI 6) then (ts_bi (F_X5_finding [.inr (.inr (.inl (6, 0))), .inl (Int32.ofNat 4293967294)] σ1) fun x6 σ5 => some (some (.inl x6), σ5)) else ts_bi (F_X5_onePersonMore [.inr (.inr (.inl (6, 0))), .inl a1] σ1) fun x8 σ7 => some (some (.inl x8), σ7)) := by
  exact (ts_unf E_X5_person tb_X5_person [] 24 _).trans rfl
set_option maxRecDepth 100000 in
set_option maxHeartbeats 2000000 in
theorem e_X5_holds (a1 : Int32) (σ : ts_S) : F_X5_holds [.inr (.inr (.inl (6, 0))), .inl a1] σ = (ts_bi (F_X5_sillIs [.inr (.inr (.inl (6, 0))), .inl a1, .inl (nI 0)] σ) fun x2 σ1 => if x2 = nI 1 then (some (some (.inl (nI 4)), σ1)) else if x2 = nI 2 then (some (some (.inl (nI 5)), σ1)) else if x2 = nI 3 then (some (some (.inl (nI 4)), σ1)) else if x2 = nI 4 then (some (some (.inl (nI 2)), σ1)) else if x2 = nI 5 then (some (some (.inl (nI 3)), σ1)) else if x2 = nI 6 then (some (some (.inl (nI 0)), σ1)) else some (some (.inl (nI 3)), σ1)) := by
  exact (ts_unf E_X5_holds tb_X5_holds [] 18 _).trans rfl
noncomputable def H_X5_keptSet_4 (v1 : Int32) (v2 : Int32) (v3 : Int32) (σ : ts_S) : Option ts_A := ts_R E_X5_keptSet tb_X5_keptSet (4, [some (.inr (.inr (.inl (6, 0)))), some (.inl v1), some (.inl v2), some (.inl v3)], [], σ)
set_option maxRecDepth 100000 in
set_option maxHeartbeats 2000000 in
theorem e_X5_keptSet (a1 : Int32) (σ : ts_S) : F_X5_keptSet [.inr (.inr (.inl (6, 0))), .inl a1] σ = (H_X5_keptSet_4 a1 (nI 0) (nI 0) σ) := by
  exact (ts_unf E_X5_keptSet tb_X5_keptSet [4] 28 _).trans rfl
set_option maxRecDepth 100000 in
set_option maxHeartbeats 2000000 in
theorem h_X5_keptSet_4 (v1 : Int32) (v2 : Int32) (v3 : Int32) (σ : ts_S) : H_X5_keptSet_4 v1 v2 v3 σ = (ts_bi (F_X5_sillIs [.inr (.inr (.inl (6, 0))), .inl v1, .inl (nI 3)] σ) fun x2 σ1 => if x2 ≤ v3 then (some (some (.inl v2), σ1)) else ts_bi (F_X5_sillIs [.inr (.inr (.inl (6, 0))), .inl v1, .inl ((nI 4) + v3)] σ1) fun x4 σ3 => ts_ni (v2 ||| ((nI 1) <<< (x4 &&& nI 31))) fun y5 => H_X5_keptSet_4 v1 y5 (v3 + (nI 1)) σ3) := by
  exact (ts_unf E_X5_keptSet tb_X5_keptSet [4] 28 _).trans rfl
set_option maxRecDepth 100000 in
set_option maxHeartbeats 2000000 in
theorem e_X5_givesFrom (a1 : Int32) (σ : ts_S) : F_X5_givesFrom [.inr (.inr (.inl (6, 0))), .inl a1] σ = (ts_bi (F_X5_sillIs [.inr (.inr (.inl (6, 0))), .inl a1, .inl (nI 3)] σ) fun x2 σ1 => ts_ni (x2 - (nI 1)) fun y3 => if nI 0 ≤ y3 then (ts_bi (F_X5_sillIs [.inr (.inr (.inl (6, 0))), .inl a1, .inl (nI 0)] σ1) fun x5 σ4 => if x5 = nI 2 then (some (some (.inl y3), σ4)) else if x5 = nI 3 then (ts_bi (F_X5_sillIs [.inr (.inr (.inl (6, 0))), .inl a1, .inl (nI 1)] σ4) fun x7 σ6 => if (x7 - x7 / (nI 3) * (nI 3)) = nI 0 then (some (some (.inl (nI 0)), σ6)) else some (some (.inl y3), σ6)) else if x5 = nI 4 then (ts_bi (F_X5_sillIs [.inr (.inr (.inl (6, 0))), .inl a1, .inl (nI 1)] σ4) fun x9 σ8 => if (x9 - x9 / (nI 3) * (nI 3)) = nI 0 then (some (some (.inl (nI 0)), σ8)) else some (some (.inl y3), σ8)) else if x5 = nI 5 then (some (some (.inl (-1)), σ4)) else some (some (.inl (nI 0)), σ4)) else ts_bi (F_X5_sillIs [.inr (.inr (.inl (6, 0))), .inl a1, .inl (nI 0)] σ1) fun x11 σ10 => if x11 = nI 2 then (some (some (.inl y3), σ10)) else if x11 = nI 3 then (ts_bi (F_X5_sillIs [.inr (.inr (.inl (6, 0))), .inl a1, .inl (nI 1)] σ10) fun x13 σ12 => if (x13 - x13 / (nI 3) * (nI 3)) = nI 0 then (some (some (.inl (-1)), σ12)) else some (some (.inl y3), σ12)) else if x11 = nI 4 then (ts_bi (F_X5_sillIs [.inr (.inr (.inl (6, 0))), .inl a1, .inl (nI 1)] σ10) fun x15 σ14 => if (x15 - x15 / (nI 3) * (nI 3)) = nI 0 then (some (some (.inl (-1)), σ14)) else some (some (.inl y3), σ14)) else if x11 = nI 5 then (some (some (.inl (-1)), σ10)) else some (some (.inl (-1)), σ10)) := by
  exact (ts_unf E_X5_givesFrom tb_X5_givesFrom [] 38 _).trans rfl
set_option maxRecDepth 100000 in
set_option maxHeartbeats 2000000 in
theorem e_X5_gives (a1 : Int32) (σ : ts_S) : F_X5_gives [.inr (.inr (.inl (6, 0))), .inl a1] σ = (ts_bi (F_X5_givesFrom [.inr (.inr (.inl (6, 0))), .inl a1] σ) fun x2 σ1 => if nI 0 ≤ x2 then (ts_bi (F_X5_sillIs [.inr (.inr (.inl (6, 0))), .inl a1, .inl ((nI 4) + x2)] σ1) fun x4 σ3 => some (some (.inl x4), σ3)) else some (some (.inl (-1)), σ1)) := by
  exact (ts_unf E_X5_gives tb_X5_gives [] 18 _).trans rfl
noncomputable def H_X5_greatest_3 (v0 : Int32) (v1 : Int32) (σ : ts_S) : Option ts_A := ts_R E_X5_greatest tb_X5_greatest (3, [some (.inl v0), some (.inl v1)], [], σ)
set_option maxRecDepth 100000 in
set_option maxHeartbeats 2000000 in
theorem e_X5_greatest (a1 : Int32) (σ : ts_S) : F_X5_greatest [.inl a1] σ = (H_X5_greatest_3 a1 (nI 11) σ) := by
  exact (ts_unf E_X5_greatest tb_X5_greatest [3] 17 _).trans rfl
set_option maxRecDepth 100000 in
set_option maxHeartbeats 2000000 in
theorem h_X5_greatest_3 (v0 : Int32) (v1 : Int32) (σ : ts_S) : H_X5_greatest_3 v0 v1 σ = (if v1 < nI 0 then (some (some (.inl v1), σ)) else if ((v0 >>> (v1 &&& nI 31)) &&& (nI 1)) = nI 0 then (H_X5_greatest_3 v0 (v1 + (-1)) σ) else some (some (.inl v1), σ)) := by
  exact (ts_unf E_X5_greatest tb_X5_greatest [3] 17 _).trans rfl
noncomputable def H_X5_least_2 (v0 : Int32) (v1 : Int32) (σ : ts_S) : Option ts_A := ts_R E_X5_least tb_X5_least (2, [some (.inl v0), some (.inl v1)], [], σ)
set_option maxRecDepth 100000 in
set_option maxHeartbeats 2000000 in
theorem e_X5_least (a1 : Int32) (σ : ts_S) : F_X5_least [.inl a1] σ = (H_X5_least_2 a1 (nI 0) σ) := by
  exact (ts_unf E_X5_least tb_X5_least [2] 23 _).trans rfl
set_option maxRecDepth 100000 in
set_option maxHeartbeats 2000000 in
theorem h_X5_least_2 (v0 : Int32) (v1 : Int32) (σ : ts_S) : H_X5_least_2 v0 v1 σ = (if (nI 12) ≤ v1 then (if v1 = (nI 12) then (some (some (.inl (-1)), σ)) else some (some (.inl v1), σ)) else if ((v0 >>> (v1 &&& nI 31)) &&& (nI 1)) = nI 0 then (H_X5_least_2 v0 (v1 + (nI 1)) σ) else if v1 = (nI 12) then (some (some (.inl (-1)), σ)) else some (some (.inl v1), σ)) := by
  exact (ts_unf E_X5_least tb_X5_least [2] 23 _).trans rfl
set_option maxRecDepth 100000 in
set_option maxHeartbeats 2000000 in
theorem e_X5_takesOf (a1 : Int32) (a2 : Int32) (σ : ts_S) : F_X5_takesOf [.inr (.inr (.inl (6, 0))), .inl a1, .inl a2] σ = (ts_bi (F_X5_greatest [.inl (a2 &&& (nI 1365))] σ) fun x2 σ1 => if nI 0 ≤ x2 then (ts_bi (F_X5_sillIs [.inr (.inr (.inl (6, 0))), .inl a1, .inl (nI 0)] σ1) fun x4 σ3 => if x4 = nI 1 then (ts_bi (F_X5_least [.inl a2] σ3) fun x6 σ5 => some (some (.inl x6), σ5)) else if x4 = nI 2 then (some (some (.inl x2), σ3)) else if x4 = nI 3 then (some (some (.inl x2), σ3)) else if x4 = nI 4 then (if x2 < nI 0 then (some (some (.inl x2), σ3)) else ts_bi (F_X5_keptSet [.inr (.inr (.inl (6, 0))), .inl a1] σ3) fun x8 σ7 => if ((x8 >>> (x2 &&& nI 31)) &&& (nI 1)) = (nI 1) then (some (some (.inl (-1)), σ7)) else some (some (.inl x2), σ7)) else if x4 = nI 5 then (ts_bi (F_X5_greatest [.inl a2] σ3) fun x10 σ9 => some (some (.inl x10), σ9)) else if x4 = nI 6 then (ts_bi (F_X5_least [.inl a2] σ3) fun x12 σ11 => some (some (.inl x12), σ11)) else ts_bi (F_X5_greatest [.inl a2] σ3) fun x14 σ13 => some (some (.inl x14), σ13)) else ts_bi (F_X5_greatest [.inl a2] σ1) fun x16 σ15 => ts_bi (F_X5_sillIs [.inr (.inr (.inl (6, 0))), .inl a1, .inl (nI 0)] σ15) fun x18 σ17 => if x18 = nI 1 then (ts_bi (F_X5_least [.inl a2] σ17) fun x20 σ19 => some (some (.inl x20), σ19)) else if x18 = nI 2 then (some (some (.inl x2), σ17)) else if x18 = nI 3 then (some (some (.inl x16), σ17)) else if x18 = nI 4 then (if x16 < nI 0 then (some (some (.inl x16), σ17)) else ts_bi (F_X5_keptSet [.inr (.inr (.inl (6, 0))), .inl a1] σ17) fun x22 σ21 => if ((x22 >>> (x16 &&& nI 31)) &&& (nI 1)) = (nI 1) then (some (some (.inl (-1)), σ21)) else some (some (.inl x16), σ21)) else if x18 = nI 5 then (ts_bi (F_X5_greatest [.inl a2] σ17) fun x24 σ23 => some (some (.inl x24), σ23)) else if x18 = nI 6 then (ts_bi (F_X5_least [.inl a2] σ17) fun x26 σ25 => some (some (.inl x26), σ25)) else ts_bi (F_X5_greatest [.inl a2] σ17) fun x28 σ27 => some (some (.inl x28), σ27)) := by
  exact (ts_unf E_X5_takesOf tb_X5_takesOf [] 45 _).trans rfl
set_option maxRecDepth 100000 in
set_option maxHeartbeats 2000000 in
theorem e_X5_told (a1 : Int32) (a2 : Int32) (σ : ts_S) : F_X5_told [.inr (.inr (.inl (6, 0))), .inl a1, .inl a2] σ = (if a2 = nI 0 then (ts_bi (F_X5_sillIs [.inr (.inr (.inl (6, 0))), .inl a1, .inl (nI 0)] σ) fun x2 σ1 => some (some (.inl x2), σ1)) else if a2 = nI 1 then (ts_bi (F_X5_sillIs [.inr (.inr (.inl (6, 0))), .inl a1, .inl (nI 3)] σ) fun x4 σ3 => some (some (.inl x4), σ3)) else if a2 = nI 2 then (ts_bi (F_X5_sillIs [.inr (.inr (.inl (6, 0))), .inl a1, .inl (nI 1)] σ) fun x6 σ5 => some (some (.inl x6), σ5)) else if a2 = nI 3 then (ts_bi (F_X5_sillIs [.inr (.inr (.inl (6, 0))), .inl a1, .inl (nI 2)] σ) fun x8 σ7 => some (some (.inl x8), σ7)) else if a2 = nI 4 then (ts_bi (F_X5_holds [.inr (.inr (.inl (6, 0))), .inl a1] σ) fun x10 σ9 => some (some (.inl x10), σ9)) else if a2 = nI 5 then (ts_bi (F_X5_keptSet [.inr (.inr (.inl (6, 0))), .inl a1] σ) fun x12 σ11 => some (some (.inl x12), σ11)) else ts_bi (F_X5_gives [.inr (.inr (.inl (6, 0))), .inl a1] σ) fun x14 σ13 => some (some (.inl x14), σ13)) := by
  exact (ts_unf E_X5_told tb_X5_told [] 37 _).trans rfl
set_option maxRecDepth 100000 in
set_option maxHeartbeats 2000000 in
theorem e_X5_of (a1 : Int32) (a2 : Int32) (σ : ts_S) : F_X5_of [.inr (.inr (.inl (6, 0))), .inl a1, .inl a2] σ = (ts_bi (F_X5_isSill [.inr (.inr (.inl (6, 0))), .inl a1] σ) fun x2 σ1 => if x2 = nI 0 then (ts_bi (F_X5_finding [.inr (.inr (.inl (6, 0))), .inl (Int32.ofNat 4293967295)] σ1) fun x4 σ3 => some (some (.inl x4), σ3)) else ts_bi (F_X5_within [.inl a2, .inl (nI 0), .inl (nI 6)] σ1) fun x6 σ5 => if x6 = nI 0 then (ts_bi (F_X5_finding [.inr (.inr (.inl (6, 0))), .inl (Int32.ofNat 4293967295)] σ5) fun x8 σ7 => some (some (.inl x8), σ7)) else ts_bi (F_X5_told [.inr (.inr (.inl (6, 0))), .inl a1, .inl a2] σ5) fun x10 σ9 => some (some (.inl x10), σ9)) := by
  exact (ts_unf E_X5_of tb_X5_of [] 21 _).trans rfl
set_option maxRecDepth 100000 in
set_option maxHeartbeats 2000000 in
theorem e_X5_word (a1 : Int32) (a2 : Int32) (σ : ts_S) : F_X5_word [.inr (.inr (.inl (6, 0))), .inl a1, .inl a2] σ = (ts_bi (F_X5_isSill [.inr (.inr (.inl (6, 0))), .inl a1] σ) fun x2 σ1 => if x2 = nI 0 then (ts_bi (F_X5_finding [.inr (.inr (.inl (6, 0))), .inl (Int32.ofNat 4293967295)] σ1) fun x4 σ3 => some (some (.inl x4), σ3)) else if nI 0 ≤ a2 then (ts_bi (F_X5_sillIs [.inr (.inr (.inl (6, 0))), .inl a1, .inl (nI 3)] σ1) fun x6 σ5 => if x6 ≤ a2 then (ts_bi (F_X5_finding [.inr (.inr (.inl (6, 0))), .inl (Int32.ofNat 4293967292)] σ5) fun x8 σ7 => some (some (.inl x8), σ7)) else ts_bi (F_X5_sillIs [.inr (.inr (.inl (6, 0))), .inl a1, .inl ((nI 4) + a2)] σ5) fun x10 σ9 => some (some (.inl x10), σ9)) else ts_bi (F_X5_finding [.inr (.inr (.inl (6, 0))), .inl (Int32.ofNat 4293967295)] σ1) fun x12 σ11 => some (some (.inl x12), σ11)) := by
  exact (ts_unf E_X5_word tb_X5_word [] 30 _).trans rfl
set_option maxRecDepth 100000 in
set_option maxHeartbeats 2000000 in
theorem e_X5_change (a1 : Int32) (a2 : Int32) (a3 : Int32) (σ : ts_S) : F_X5_change [.inr (.inr (.inl (6, 0))), .inl a1, .inl a2, .inl a3] σ = (if a2 = nI 0 then (ts_bi (F_X5_isKind [.inl a3] σ) fun x2 σ1 => ts_bi (F_X5_isSill [.inr (.inr (.inl (6, 0))), .inl a1] σ1) fun x4 σ3 => if x4 = nI 0 then (ts_bi (F_X5_finding [.inr (.inr (.inl (6, 0))), .inl (Int32.ofNat 4293967295)] σ3) fun x6 σ5 => some (some (.inl x6), σ5)) else if x2 = nI 0 then (ts_bi (F_X5_finding [.inr (.inr (.inl (6, 0))), .inl (Int32.ofNat 4293967295)] σ3) fun x8 σ7 => some (some (.inl x8), σ7)) else if a2 = nI 0 then (ts_bi (F_X5_sillAt [.inl a1, .inl (nI 0)] σ3) fun x10 σ9 => ts_bi (F_X5_become [.inr (.inr (.inl (6, 0))), .inl x10, .inl a3] σ9) fun x12 σ11 => some (some (.inl x12), σ11)) else if a2 = (nI 2) then (ts_bi (F_X5_sillAt [.inl a1, .inl (nI 1)] σ3) fun x14 σ13 => ts_bi (F_X5_become [.inr (.inr (.inl (6, 0))), .inl x14, .inl a3] σ13) fun x16 σ15 => some (some (.inl x16), σ15)) else ts_bi (F_X5_sillAt [.inl a1, .inl (nI 2)] σ3) fun x18 σ17 => ts_bi (F_X5_become [.inr (.inr (.inl (6, 0))), .inl x18, .inl a3] σ17) fun x20 σ19 => some (some (.inl x20), σ19)) else if a2 = (nI 2) then (ts_bi (F_X5_within [.inl a3, .inl (nI 0), .inl (nI 9999)] σ) fun x22 σ21 => ts_bi (F_X5_isSill [.inr (.inr (.inl (6, 0))), .inl a1] σ21) fun x24 σ23 => if x24 = nI 0 then (ts_bi (F_X5_finding [.inr (.inr (.inl (6, 0))), .inl (Int32.ofNat 4293967295)] σ23) fun x26 σ25 => some (some (.inl x26), σ25)) else if x22 = nI 0 then (ts_bi (F_X5_finding [.inr (.inr (.inl (6, 0))), .inl (Int32.ofNat 4293967295)] σ23) fun x28 σ27 => some (some (.inl x28), σ27)) else if a2 = nI 0 then (ts_bi (F_X5_sillAt [.inl a1, .inl (nI 0)] σ23) fun x30 σ29 => ts_bi (F_X5_become [.inr (.inr (.inl (6, 0))), .inl x30, .inl a3] σ29) fun x32 σ31 => some (some (.inl x32), σ31)) else if a2 = (nI 2) then (ts_bi (F_X5_sillAt [.inl a1, .inl (nI 1)] σ23) fun x34 σ33 => ts_bi (F_X5_become [.inr (.inr (.inl (6, 0))), .inl x34, .inl a3] σ33) fun x36 σ35 => some (some (.inl x36), σ35)) else ts_bi (F_X5_sillAt [.inl a1, .inl (nI 2)] σ23) fun x38 σ37 => ts_bi (F_X5_become [.inr (.inr (.inl (6, 0))), .inl x38, .inl a3] σ37) fun x40 σ39 => some (some (.inl x40), σ39)) else if a2 = (nI 3) then (ts_bi (F_X5_within [.inl a3, .inl (nI 0), .inl (nI 1)] σ) fun x42 σ41 => if x42 = nI 0 then (ts_bi (F_X5_isSill [.inr (.inr (.inl (6, 0))), .inl a1] σ41) fun x44 σ43 => if x44 = nI 0 then (ts_bi (F_X5_finding [.inr (.inr (.inl (6, 0))), .inl (Int32.ofNat 4293967295)] σ43) fun x46 σ45 => some (some (.inl x46), σ45)) else if (nI 0) = nI 0 then (ts_bi (F_X5_finding [.inr (.inr (.inl (6, 0))), .inl (Int32.ofNat 4293967295)] σ43) fun x48 σ47 => some (some (.inl x48), σ47)) else if a2 = nI 0 then (ts_bi (F_X5_sillAt [.inl a1, .inl (nI 0)] σ43) fun x50 σ49 => ts_bi (F_X5_become [.inr (.inr (.inl (6, 0))), .inl x50, .inl a3] σ49) fun x52 σ51 => some (some (.inl x52), σ51)) else if a2 = (nI 2) then (ts_bi (F_X5_sillAt [.inl a1, .inl (nI 1)] σ43) fun x54 σ53 => ts_bi (F_X5_become [.inr (.inr (.inl (6, 0))), .inl x54, .inl a3] σ53) fun x56 σ55 => some (some (.inl x56), σ55)) else ts_bi (F_X5_sillAt [.inl a1, .inl (nI 2)] σ43) fun x58 σ57 => ts_bi (F_X5_become [.inr (.inr (.inl (6, 0))), .inl x58, .inl a3] σ57) fun x60 σ59 => some (some (.inl x60), σ59)) else ts_bi (F_X5_isSill [.inr (.inr (.inl (6, 0))), .inl a1] σ41) fun x62 σ61 => if x62 = nI 0 then (ts_bi (F_X5_finding [.inr (.inr (.inl (6, 0))), .inl (Int32.ofNat 4293967295)] σ61) fun x64 σ63 => some (some (.inl x64), σ63)) else if (nI 1) = nI 0 then (ts_bi (F_X5_finding [.inr (.inr (.inl (6, 0))), .inl (Int32.ofNat 4293967295)] σ61) fun x66 σ65 => some (some (.inl x66), σ65)) else if a2 = nI 0 then (ts_bi (F_X5_sillAt [.inl a1, .inl (nI 0)] σ61) fun x68 σ67 => ts_bi (F_X5_become [.inr (.inr (.inl (6, 0))), .inl x68, .inl a3] σ67) fun x70 σ69 => some (some (.inl x70), σ69)) else if a2 = (nI 2) then (ts_bi (F_X5_sillAt [.inl a1, .inl (nI 1)] σ61) fun x72 σ71 => ts_bi (F_X5_become [.inr (.inr (.inl (6, 0))), .inl x72, .inl a3] σ71) fun x74 σ73 => some (some (.inl x74), σ73)) else ts_bi (F_X5_sillAt [.inl a1, .inl (nI 2)] σ61) fun x76 σ75 => ts_bi (F_X5_become [.inr (.inr (.inl (6, 0))), .inl x76, .inl a3] σ75) fun x78 σ77 => some (some (.inl x78), σ77)) else ts_bi (F_X5_isSill [.inr (.inr (.inl (6, 0))), .inl a1] σ) fun x80 σ79 => if x80 = nI 0 then (ts_bi (F_X5_finding [.inr (.inr (.inl (6, 0))), .inl (Int32.ofNat 4293967295)] σ79) fun x82 σ81 => some (some (.inl x82), σ81)) else if (nI 0) = nI 0 then (ts_bi (F_X5_finding [.inr (.inr (.inl (6, 0))), .inl (Int32.ofNat 4293967295)] σ79) fun x84 σ83 => some (some (.inl x84), σ83)) else if a2 = nI 0 then (ts_bi (F_X5_sillAt [.inl a1, .inl (nI 0)] σ79) fun x86 σ85 => ts_bi (F_X5_become [.inr (.inr (.inl (6, 0))), .inl x86, .inl a3] σ85) fun x88 σ87 => some (some (.inl x88), σ87)) else if a2 = (nI 2) then (ts_bi (F_X5_sillAt [.inl a1, .inl (nI 1)] σ79) fun x90 σ89 => ts_bi (F_X5_become [.inr (.inr (.inl (6, 0))), .inl x90, .inl a3] σ89) fun x92 σ91 => some (some (.inl x92), σ91)) else ts_bi (F_X5_sillAt [.inl a1, .inl (nI 2)] σ79) fun x94 σ93 => ts_bi (F_X5_become [.inr (.inr (.inl (6, 0))), .inl x94, .inl a3] σ93) fun x96 σ95 => some (some (.inl x96), σ95)) := by
  exact (ts_unf E_X5_change tb_X5_change [] 54 _).trans rfl
set_option maxRecDepth 100000 in
set_option maxHeartbeats 2000000 in
theorem e_X5_lays (a1 : Int32) (a2 : Int32) (σ : ts_S) : F_X5_lays [.inr (.inr (.inl (6, 0))), .inl a1, .inl a2] σ = (ts_bi (F_X5_sillIs [.inr (.inr (.inl (6, 0))), .inl a1, .inl (nI 3)] σ) fun x2 σ1 => ts_bi (F_X5_sillAt [.inl a1, .inl ((nI 4) + x2)] σ1) fun x4 σ3 => ts_ck x4 111 <| ts_nw (ts_up σ3 6 1 (x4.toNatClampNeg) a2) fun σ5 => ts_bi (F_X5_sillAt [.inl a1, .inl (nI 3)] σ5) fun x7 σ6 => ts_ck x7 111 <| ts_ck x7 111 <| ts_nw (ts_up σ6 6 1 (x7.toNatClampNeg) ((σ6 6 1 (x7.toNatClampNeg)) + (nI 1))) fun σ8 => ts_bi (F_X5_sillIs [.inr (.inr (.inl (6, 0))), .inl a1, .inl (nI 3)] σ8) fun x10 σ9 => some (some (.inl x10), σ9)) := by
  exact (ts_unf E_X5_lays tb_X5_lays [] 30 _).trans rfl
set_option maxRecDepth 100000 in
set_option maxHeartbeats 2000000 in
theorem e_X5_lay (a1 : Int32) (a2 : Int32) (σ : ts_S) : F_X5_lay [.inr (.inr (.inl (6, 0))), .inl a1, .inl a2] σ = (ts_bi (F_X5_isSill [.inr (.inr (.inl (6, 0))), .inl a1] σ) fun x2 σ1 => if x2 = nI 0 then (ts_bi (F_X5_finding [.inr (.inr (.inl (6, 0))), .inl (Int32.ofNat 4293967295)] σ1) fun x4 σ3 => some (some (.inl x4), σ3)) else ts_bi (F_X5_isWordNumber [.inl a2] σ1) fun x6 σ5 => if x6 = nI 0 then (ts_bi (F_X5_finding [.inr (.inr (.inl (6, 0))), .inl (Int32.ofNat 4293967295)] σ5) fun x8 σ7 => some (some (.inl x8), σ7)) else ts_bi (F_X5_sillIs [.inr (.inr (.inl (6, 0))), .inl a1, .inl (nI 3)] σ5) fun x10 σ9 => if x10 = (nI 5) then (ts_bi (F_X5_finding [.inr (.inr (.inl (6, 0))), .inl (Int32.ofNat 4293967294)] σ9) fun x12 σ11 => some (some (.inl x12), σ11)) else ts_bi (F_X5_lays [.inr (.inr (.inl (6, 0))), .inl a1, .inl a2] σ9) fun x14 σ13 => some (some (.inl x14), σ13)) := by
  exact (ts_unf E_X5_lay tb_X5_lay [] 29 _).trans rfl
set_option maxRecDepth 100000 in
set_option maxHeartbeats 2000000 in
theorem e_X5_ofPerson (a1 : Int32) (a2 : Int32) (σ : ts_S) : F_X5_ofPerson [.inr (.inr (.inl (6, 0))), .inl a1, .inl a2] σ = (ts_bi (F_X5_isPerson [.inr (.inr (.inl (6, 0))), .inl a1] σ) fun x2 σ1 => if x2 = nI 0 then (ts_bi (F_X5_finding [.inr (.inr (.inl (6, 0))), .inl (Int32.ofNat 4293967295)] σ1) fun x4 σ3 => some (some (.inl x4), σ3)) else ts_bi (F_X5_within [.inl a2, .inl (nI 0), .inl (nI 2)] σ1) fun x6 σ5 => if x6 = nI 0 then (ts_bi (F_X5_finding [.inr (.inr (.inl (6, 0))), .inl (Int32.ofNat 4293967295)] σ5) fun x8 σ7 => some (some (.inl x8), σ7)) else ts_bi (F_X5_personIs [.inr (.inr (.inl (6, 0))), .inl a1, .inl a2] σ5) fun x10 σ9 => some (some (.inl x10), σ9)) := by
  exact (ts_unf E_X5_ofPerson tb_X5_ofPerson [] 21 _).trans rfl
set_option maxRecDepth 100000 in
set_option maxHeartbeats 2000000 in
theorem e_X5_send (a1 : Int32) (a2 : Int32) (a3 : Int32) (σ : ts_S) : F_X5_send [.inr (.inr (.inl (6, 0))), .inl a1, .inl a2, .inl a3] σ = (if a2 = nI 0 then (ts_bi (F_X5_isSet [.inl a3] σ) fun x2 σ1 => ts_bi (F_X5_isPerson [.inr (.inr (.inl (6, 0))), .inl a1] σ1) fun x4 σ3 => if x4 = nI 0 then (ts_bi (F_X5_finding [.inr (.inr (.inl (6, 0))), .inl (Int32.ofNat 4293967295)] σ3) fun x6 σ5 => some (some (.inl x6), σ5)) else if x2 = nI 0 then (ts_bi (F_X5_finding [.inr (.inr (.inl (6, 0))), .inl (Int32.ofNat 4293967295)] σ3) fun x8 σ7 => some (some (.inl x8), σ7)) else ts_bi (F_X5_personAt [.inl a1, .inl a2] σ3) fun x10 σ9 => ts_bi (F_X5_become [.inr (.inr (.inl (6, 0))), .inl x10, .inl a3] σ9) fun x12 σ11 => some (some (.inl x12), σ11)) else if a2 = (nI 1) then (if a3 = (-1) then (ts_bi (F_X5_isPerson [.inr (.inr (.inl (6, 0))), .inl a1] σ) fun x14 σ13 => if x14 = nI 0 then (ts_bi (F_X5_finding [.inr (.inr (.inl (6, 0))), .inl (Int32.ofNat 4293967295)] σ13) fun x16 σ15 => some (some (.inl x16), σ15)) else if (nI 1) = nI 0 then (ts_bi (F_X5_finding [.inr (.inr (.inl (6, 0))), .inl (Int32.ofNat 4293967295)] σ13) fun x18 σ17 => some (some (.inl x18), σ17)) else ts_bi (F_X5_personAt [.inl a1, .inl a2] σ13) fun x20 σ19 => ts_bi (F_X5_become [.inr (.inr (.inl (6, 0))), .inl x20, .inl a3] σ19) fun x22 σ21 => some (some (.inl x22), σ21)) else ts_bi (F_X5_isSill [.inr (.inr (.inl (6, 0))), .inl a3] σ) fun x24 σ23 => if x24 = nI 0 then (ts_bi (F_X5_isPerson [.inr (.inr (.inl (6, 0))), .inl a1] σ23) fun x26 σ25 => if x26 = nI 0 then (ts_bi (F_X5_finding [.inr (.inr (.inl (6, 0))), .inl (Int32.ofNat 4293967295)] σ25) fun x28 σ27 => some (some (.inl x28), σ27)) else if (nI 0) = nI 0 then (ts_bi (F_X5_finding [.inr (.inr (.inl (6, 0))), .inl (Int32.ofNat 4293967295)] σ25) fun x30 σ29 => some (some (.inl x30), σ29)) else ts_bi (F_X5_personAt [.inl a1, .inl a2] σ25) fun x32 σ31 => ts_bi (F_X5_become [.inr (.inr (.inl (6, 0))), .inl x32, .inl a3] σ31) fun x34 σ33 => some (some (.inl x34), σ33)) else ts_bi (F_X5_isPerson [.inr (.inr (.inl (6, 0))), .inl a1] σ23) fun x36 σ35 => if x36 = nI 0 then (ts_bi (F_X5_finding [.inr (.inr (.inl (6, 0))), .inl (Int32.ofNat 4293967295)] σ35) fun x38 σ37 => some (some (.inl x38), σ37)) else if (nI 1) = nI 0 then (ts_bi (F_X5_finding [.inr (.inr (.inl (6, 0))), .inl (Int32.ofNat 4293967295)] σ35) fun x40 σ39 => some (some (.inl x40), σ39)) else ts_bi (F_X5_personAt [.inl a1, .inl a2] σ35) fun x42 σ41 => ts_bi (F_X5_become [.inr (.inr (.inl (6, 0))), .inl x42, .inl a3] σ41) fun x44 σ43 => some (some (.inl x44), σ43)) else if a2 = (nI 2) then (ts_bi (F_X5_within [.inl a3, .inl (nI 0), .inl (nI 9999)] σ) fun x46 σ45 => if x46 = nI 0 then (ts_bi (F_X5_isPerson [.inr (.inr (.inl (6, 0))), .inl a1] σ45) fun x48 σ47 => if x48 = nI 0 then (ts_bi (F_X5_finding [.inr (.inr (.inl (6, 0))), .inl (Int32.ofNat 4293967295)] σ47) fun x50 σ49 => some (some (.inl x50), σ49)) else if (nI 0) = nI 0 then (ts_bi (F_X5_finding [.inr (.inr (.inl (6, 0))), .inl (Int32.ofNat 4293967295)] σ47) fun x52 σ51 => some (some (.inl x52), σ51)) else ts_bi (F_X5_personAt [.inl a1, .inl a2] σ47) fun x54 σ53 => ts_bi (F_X5_become [.inr (.inr (.inl (6, 0))), .inl x54, .inl a3] σ53) fun x56 σ55 => some (some (.inl x56), σ55)) else ts_bi (F_X5_isPerson [.inr (.inr (.inl (6, 0))), .inl a1] σ45) fun x58 σ57 => if x58 = nI 0 then (ts_bi (F_X5_finding [.inr (.inr (.inl (6, 0))), .inl (Int32.ofNat 4293967295)] σ57) fun x60 σ59 => some (some (.inl x60), σ59)) else if (nI 1) = nI 0 then (ts_bi (F_X5_finding [.inr (.inr (.inl (6, 0))), .inl (Int32.ofNat 4293967295)] σ57) fun x62 σ61 => some (some (.inl x62), σ61)) else ts_bi (F_X5_personAt [.inl a1, .inl a2] σ57) fun x64 σ63 => ts_bi (F_X5_become [.inr (.inr (.inl (6, 0))), .inl x64, .inl a3] σ63) fun x66 σ65 => some (some (.inl x66), σ65)) else ts_bi (F_X5_isPerson [.inr (.inr (.inl (6, 0))), .inl a1] σ) fun x68 σ67 => if x68 = nI 0 then (ts_bi (F_X5_finding [.inr (.inr (.inl (6, 0))), .inl (Int32.ofNat 4293967295)] σ67) fun x70 σ69 => some (some (.inl x70), σ69)) else if (nI 0) = nI 0 then (ts_bi (F_X5_finding [.inr (.inr (.inl (6, 0))), .inl (Int32.ofNat 4293967295)] σ67) fun x72 σ71 => some (some (.inl x72), σ71)) else ts_bi (F_X5_personAt [.inl a1, .inl a2] σ67) fun x74 σ73 => ts_bi (F_X5_become [.inr (.inr (.inl (6, 0))), .inl x74, .inl a3] σ73) fun x76 σ75 => some (some (.inl x76), σ75)) := by
  exact (ts_unf E_X5_send tb_X5_send [] 51 _).trans rfl
set_option maxRecDepth 100000 in
set_option maxHeartbeats 2000000 in
theorem e_X5_takes (a1 : Int32) (a2 : Int32) (σ : ts_S) : F_X5_takes [.inr (.inr (.inl (6, 0))), .inl a1, .inl a2] σ = (ts_bi (F_X5_isSill [.inr (.inr (.inl (6, 0))), .inl a1] σ) fun x2 σ1 => if x2 = nI 0 then (ts_bi (F_X5_finding [.inr (.inr (.inl (6, 0))), .inl (Int32.ofNat 4293967295)] σ1) fun x4 σ3 => some (some (.inl x4), σ3)) else ts_bi (F_X5_isSet [.inl a2] σ1) fun x6 σ5 => if x6 = nI 0 then (ts_bi (F_X5_finding [.inr (.inr (.inl (6, 0))), .inl (Int32.ofNat 4293967295)] σ5) fun x8 σ7 => some (some (.inl x8), σ7)) else ts_bi (F_X5_takesOf [.inr (.inr (.inl (6, 0))), .inl a1, .inl a2] σ5) fun x10 σ9 => ts_bi (F_X5_orNone [.inr (.inr (.inl (6, 0))), .inl x10] σ9) fun x12 σ11 => some (some (.inl x12), σ11)) := by
  exact (ts_unf E_X5_takes tb_X5_takes [] 21 _).trans rfl
set_option maxRecDepth 100000 in
set_option maxHeartbeats 2000000 in
theorem e_X5_more (a1 : Int32) (a2 : Int32) (a3 : Int32) (σ : ts_S) : F_X5_more [.inr (.inr (.inl (6, 0))), .inl a1, .inl a2, .inl a3] σ = (ts_ck a1 111 <| ts_bi (F_J9_min_7cf53 [.inl a3, .inl ((σ 6 1 (a1.toNatClampNeg)) + a2)] σ) fun x2 σ1 => ts_ck a1 111 <| ts_nw (ts_up σ1 6 1 (a1.toNatClampNeg) x2) fun σ3 => some (none, σ3)) := by
  exact (ts_unf E_X5_more tb_X5_more [] 16 _).trans rfl
set_option maxRecDepth 100000 in
set_option maxHeartbeats 2000000 in
theorem e_X5_mayCross (a1 : Int32) (a2 : Int32) (σ : ts_S) : F_X5_mayCross [.inr (.inr (.inl (6, 0))), .inl a1, .inl a2] σ = (ts_bi (F_X5_personIs [.inr (.inr (.inl (6, 0))), .inl a1, .inl (nI 1)] σ) fun x2 σ1 => ts_bi (F_X5_sillIs [.inr (.inr (.inl (6, 0))), .inl a2, .inl (nI 2)] σ1) fun x4 σ3 => if x4 = nI 0 then (if x2 = (-1) then (some (some (.inl (nI 1)), σ3)) else if x2 = a2 then (some (some (.inl (nI 1)), σ3)) else some (some (.inl (nI 0)), σ3)) else some (some (.inl (nI 0)), σ3)) := by
  exact (ts_unf E_X5_mayCross tb_X5_mayCross [] 23 _).trans rfl
set_option maxRecDepth 100000 in
set_option maxHeartbeats 2000000 in
theorem e_X5_goesIn (a1 : Int32) (a2 : Int32) (σ : ts_S) : F_X5_goesIn [.inr (.inr (.inl (6, 0))), .inl a1, .inl a2] σ = (ts_bi (F_X5_personIs [.inr (.inr (.inl (6, 0))), .inl a1, .inl (nI 0)] σ) fun x2 σ1 => ts_bi (F_X5_takesOf [.inr (.inr (.inl (6, 0))), .inl a2, .inl x2] σ1) fun x4 σ3 => ts_bi (F_X5_personAt [.inl a1, .inl (nI 1)] σ3) fun x6 σ5 => ts_ck x6 111 <| ts_nw (ts_up σ5 6 1 (x6.toNatClampNeg) a2) fun σ7 => if x4 < nI 0 then (some (some (.inl x4), σ7)) else ts_bi (F_X5_personAt [.inl a1, .inl (nI 0)] σ7) fun x9 σ8 => ts_ck x9 111 <| ts_ck x9 111 <| ts_nw (ts_up σ8 6 1 (x9.toNatClampNeg) ((σ8 6 1 (x9.toNatClampNeg)) &&& (((nI 1) <<< (x4 &&& nI 31)) ^^^ (-1)))) fun σ10 => ts_bi (F_X5_sillIs [.inr (.inr (.inl (6, 0))), .inl a2, .inl (nI 3)] σ10) fun x12 σ11 => ts_bi (F_X5_holds [.inr (.inr (.inl (6, 0))), .inl a2] σ11) fun x14 σ13 => if x14 ≤ x12 then (ts_bv (F_X5_more [.inr (.inr (.inl (6, 0))), .inl (nI 4), .inl (nI 1), .inl (nI 99999)] σ13) fun σ15 => some (some (.inl x4), σ15)) else ts_bi (F_X5_lays [.inr (.inr (.inl (6, 0))), .inl a2, .inl x4] σ13) fun x17 σ16 => some (some (.inl x4), σ16)) := by
  exact (ts_unf E_X5_goesIn tb_X5_goesIn [] 55 _).trans rfl
noncomputable def H_X5_comesOut_31 (v1 : Int32) (v2 : Int32) (v3 : Int32) (v4 : Int32) (v5 : Int32) (σ : ts_S) : Option ts_A := ts_R E_X5_comesOut tb_X5_comesOut (31, [some (.inr (.inr (.inl (6, 0)))), some (.inl v1), some (.inl v2), some (.inl v3), some (.inl v4), some (.inl v5)], [], σ)
set_option maxRecDepth 100000 in
set_option maxHeartbeats 2000000 in
theorem e_X5_comesOut (a1 : Int32) (a2 : Int32) (σ : ts_S) : F_X5_comesOut [.inr (.inr (.inl (6, 0))), .inl a1, .inl a2] σ = (ts_bi (F_X5_givesFrom [.inr (.inr (.inl (6, 0))), .inl a2] σ) fun x2 σ1 => ts_bi (F_X5_gives [.inr (.inr (.inl (6, 0))), .inl a2] σ1) fun x4 σ3 => ts_bi (F_X5_personAt [.inl a1, .inl (nI 1)] σ3) fun x6 σ5 => ts_ck x6 111 <| ts_nw (ts_up σ5 6 1 (x6.toNatClampNeg) (-1)) fun σ7 => if x2 < nI 0 then (some (some (.inl x4), σ7)) else H_X5_comesOut_31 a1 a2 x2 x4 x2 σ7) := by
  exact (ts_unf E_X5_comesOut tb_X5_comesOut [31] 88 _).trans rfl
set_option maxRecDepth 100000 in
set_option maxHeartbeats 2000000 in
theorem h_X5_comesOut_31 (v1 : Int32) (v2 : Int32) (v3 : Int32) (v4 : Int32) (v5 : Int32) (σ : ts_S) : H_X5_comesOut_31 v1 v2 v3 v4 v5 σ = (ts_bi (F_X5_sillIs [.inr (.inr (.inl (6, 0))), .inl v2, .inl (nI 3)] σ) fun x2 σ1 => if (x2 - (nI 1)) ≤ v5 then (ts_bi (F_X5_sillAt [.inl v2, .inl (nI 3)] σ1) fun x4 σ3 => ts_ck x4 111 <| ts_ck x4 111 <| ts_nw (ts_up σ3 6 1 (x4.toNatClampNeg) ((σ3 6 1 (x4.toNatClampNeg)) - (nI 1))) fun σ5 => ts_bi (F_X5_personIs [.inr (.inr (.inl (6, 0))), .inl v1, .inl (nI 0)] σ5) fun x7 σ6 => if ((x7 >>> (v4 &&& nI 31)) &&& (nI 1)) = (nI 1) then (ts_bv (F_X5_more [.inr (.inr (.inl (6, 0))), .inl (nI 4), .inl (nI 1), .inl (nI 99999)] σ6) fun σ8 => some (some (.inl v4), σ8)) else ts_bi (F_X5_personAt [.inl v1, .inl (nI 0)] σ6) fun x10 σ9 => ts_ck x10 111 <| ts_ck x10 111 <| ts_nw (ts_up σ9 6 1 (x10.toNatClampNeg) ((σ9 6 1 (x10.toNatClampNeg)) ||| ((nI 1) <<< (v4 &&& nI 31)))) fun σ11 => some (some (.inl v4), σ11)) else ts_bi (F_X5_sillAt [.inl v2, .inl ((nI 4) + v5)] σ1) fun x13 σ12 => ts_bi (F_X5_sillIs [.inr (.inr (.inl (6, 0))), .inl v2, .inl (((nI 4) + v5) + (nI 1))] σ12) fun x15 σ14 => ts_ck x13 111 <| ts_nw (ts_up σ14 6 1 (x13.toNatClampNeg) x15) fun σ16 => H_X5_comesOut_31 v1 v2 v3 v4 (v5 + (nI 1)) σ16) := by
  exact (ts_unf E_X5_comesOut tb_X5_comesOut [31] 88 _).trans rfl
set_option maxRecDepth 100000 in
set_option maxHeartbeats 2000000 in
theorem e_X5_crosses (a1 : Int32) (a2 : Int32) (σ : ts_S) : F_X5_crosses [.inr (.inr (.inl (6, 0))), .inl a1, .inl a2] σ = (ts_bi (F_X5_personIs [.inr (.inr (.inl (6, 0))), .inl a1, .inl (nI 1)] σ) fun x2 σ1 => if x2 = (-1) then (ts_bi (F_X5_goesIn [.inr (.inr (.inl (6, 0))), .inl a1, .inl a2] σ1) fun x4 σ3 => ts_bi (F_X5_sillAt [.inl a2, .inl (nI 1)] σ3) fun x6 σ5 => ts_bv (F_X5_more [.inr (.inr (.inl (6, 0))), .inl x6, .inl (nI 1), .inl (nI 9999)] σ5) fun σ7 => ts_bi (F_X5_personAt [.inl a1, .inl (nI 2)] σ7) fun x9 σ8 => ts_bv (F_X5_more [.inr (.inr (.inl (6, 0))), .inl x9, .inl (nI 1), .inl (nI 9999)] σ8) fun σ10 => some (some (.inl x4), σ10)) else ts_bi (F_X5_comesOut [.inr (.inr (.inl (6, 0))), .inl a1, .inl a2] σ1) fun x12 σ11 => ts_bi (F_X5_sillAt [.inl a2, .inl (nI 1)] σ11) fun x14 σ13 => ts_bv (F_X5_more [.inr (.inr (.inl (6, 0))), .inl x14, .inl (nI 1), .inl (nI 9999)] σ13) fun σ15 => ts_bi (F_X5_personAt [.inl a1, .inl (nI 2)] σ15) fun x17 σ16 => ts_bv (F_X5_more [.inr (.inr (.inl (6, 0))), .inl x17, .inl (nI 1), .inl (nI 9999)] σ16) fun σ18 => some (some (.inl x12), σ18)) := by
  exact (ts_unf E_X5_crosses tb_X5_crosses [] 35 _).trans rfl
set_option maxRecDepth 100000 in
set_option maxHeartbeats 2000000 in
theorem e_X5_cross (a1 : Int32) (a2 : Int32) (σ : ts_S) : F_X5_cross [.inr (.inr (.inl (6, 0))), .inl a1, .inl a2] σ = (ts_bi (F_X5_isPerson [.inr (.inr (.inl (6, 0))), .inl a1] σ) fun x2 σ1 => if x2 = nI 0 then (ts_bi (F_X5_finding [.inr (.inr (.inl (6, 0))), .inl (Int32.ofNat 4293967295)] σ1) fun x4 σ3 => some (some (.inl x4), σ3)) else ts_bi (F_X5_isSill [.inr (.inr (.inl (6, 0))), .inl a2] σ1) fun x6 σ5 => if x6 = nI 0 then (ts_bi (F_X5_finding [.inr (.inr (.inl (6, 0))), .inl (Int32.ofNat 4293967295)] σ5) fun x8 σ7 => some (some (.inl x8), σ7)) else ts_bi (F_X5_mayCross [.inr (.inr (.inl (6, 0))), .inl a1, .inl a2] σ5) fun x10 σ9 => if x10 = nI 0 then (ts_bi (F_X5_finding [.inr (.inr (.inl (6, 0))), .inl (Int32.ofNat 4293967291)] σ9) fun x12 σ11 => some (some (.inl x12), σ11)) else ts_bi (F_X5_crosses [.inr (.inr (.inl (6, 0))), .inl a1, .inl a2] σ9) fun x14 σ13 => some (some (.inl x14), σ13)) := by
  exact (ts_unf E_X5_cross tb_X5_cross [] 29 _).trans rfl
set_option maxRecDepth 100000 in
set_option maxHeartbeats 2000000 in
theorem e_X5_day (σ : ts_S) : F_X5_day [.inr (.inr (.inl (6, 0)))] σ = (ts_bi (F_X5_placeNow [.inr (.inr (.inl (6, 0)))] σ) fun x2 σ1 => ts_ck x2 111 <| ts_ni ((σ1 6 1 (x2.toNatClampNeg)) / (nI 10)) fun y3 => ts_bi (F_X5_placeNow [.inr (.inr (.inl (6, 0)))] σ1) fun x5 σ4 => ts_ck x5 111 <| ts_ni ((σ4 6 1 (x5.toNatClampNeg)) - (σ4 6 1 (x5.toNatClampNeg)) / (nI 10) * (nI 10)) fun y6 => ts_bi (F_X5_isPerson [.inr (.inr (.inl (6, 0))), .inl y3] σ4) fun x8 σ7 => if x8 = nI 0 then (ts_bv (F_X5_more [.inr (.inr (.inl (6, 0))), .inl (nI 0), .inl (nI 1), .inl (nI 99999)] σ7) fun σ9 => some (none, σ9)) else ts_bi (F_X5_isSill [.inr (.inr (.inl (6, 0))), .inl y6] σ7) fun x11 σ10 => if x11 = nI 0 then (ts_bv (F_X5_more [.inr (.inr (.inl (6, 0))), .inl (nI 0), .inl (nI 1), .inl (nI 99999)] σ10) fun σ12 => some (none, σ12)) else ts_bi (F_X5_mayCross [.inr (.inr (.inl (6, 0))), .inl y3, .inl y6] σ10) fun x14 σ13 => if x14 = nI 0 then (ts_bv (F_X5_more [.inr (.inr (.inl (6, 0))), .inl (nI 0), .inl (nI 1), .inl (nI 99999)] σ13) fun σ15 => some (none, σ15)) else ts_bi (F_X5_crosses [.inr (.inr (.inl (6, 0))), .inl y3, .inl y6] σ13) fun x17 σ16 => ts_bv (F_X5_more [.inr (.inr (.inl (6, 0))), .inl (nI 0), .inl (nI 1), .inl (nI 99999)] σ16) fun σ18 => some (none, σ18)) := by
  exact (ts_unf E_X5_day tb_X5_day [] 43 _).trans rfl
noncomputable def H_X5_daysGo_2 (v1 : Int32) (v2 : Int32) (σ : ts_S) : Option ts_A := ts_R E_X5_daysGo tb_X5_daysGo (2, [some (.inr (.inr (.inl (6, 0)))), some (.inl v1), some (.inl v2)], [], σ)
set_option maxRecDepth 100000 in
set_option maxHeartbeats 2000000 in
theorem e_X5_daysGo (a1 : Int32) (σ : ts_S) : F_X5_daysGo [.inr (.inr (.inl (6, 0))), .inl a1] σ = (H_X5_daysGo_2 a1 (nI 0) σ) := by
  exact (ts_unf E_X5_daysGo tb_X5_daysGo [2] 13 _).trans rfl
set_option maxRecDepth 100000 in
set_option maxHeartbeats 2000000 in
theorem h_X5_daysGo_2 (v1 : Int32) (v2 : Int32) (σ : ts_S) : H_X5_daysGo_2 v1 v2 σ = (if v1 ≤ v2 then (some (none, σ)) else ts_bv (F_X5_day [.inr (.inr (.inl (6, 0)))] σ) fun σ1 => H_X5_daysGo_2 v1 (v2 + (nI 1)) σ1) := by
  exact (ts_unf E_X5_daysGo tb_X5_daysGo [2] 13 _).trans rfl
set_option maxRecDepth 100000 in
set_option maxHeartbeats 2000000 in
theorem e_X5_go (a1 : Int32) (σ : ts_S) : F_X5_go [.inr (.inr (.inl (6, 0))), .inl a1] σ = (ts_bi (F_X5_within [.inl a1, .inl (nI 1), .inl (nI 60)] σ) fun x2 σ1 => if x2 = nI 0 then (ts_bi (F_X5_finding [.inr (.inr (.inl (6, 0))), .inl (Int32.ofNat 4293967295)] σ1) fun x4 σ3 => some (some (.inl x4), σ3)) else ts_ck (nI 0) 111 <| if ((σ1 6 1 0) + a1) ≤ (nI 99999) then (ts_bv (F_X5_daysGo [.inr (.inr (.inl (6, 0))), .inl a1] σ1) fun σ5 => ts_ck (nI 4) 111 <| some (some (.inl (σ5 6 1 4)), σ5)) else ts_bi (F_X5_finding [.inr (.inr (.inl (6, 0))), .inl (Int32.ofNat 4293967291)] σ1) fun x7 σ6 => some (some (.inl x7), σ6)) := by
  exact (ts_unf E_X5_go tb_X5_go [] 32 _).trans rfl
noncomputable def H_X5_sumOf_4 (v1 : Int32) (v2 : Int32) (v3 : Int32) (σ : ts_S) : Option ts_A := ts_R E_X5_sumOf tb_X5_sumOf (4, [some (.inr (.inr (.inl (6, 0)))), some (.inl v1), some (.inl v2), some (.inl v3)], [], σ)
set_option maxRecDepth 100000 in
set_option maxHeartbeats 2000000 in
theorem e_X5_sumOf (a1 : Int32) (σ : ts_S) : F_X5_sumOf [.inr (.inr (.inl (6, 0))), .inl a1] σ = (H_X5_sumOf_4 a1 (nI 0) (nI 0) σ) := by
  exact (ts_unf E_X5_sumOf tb_X5_sumOf [4] 24 _).trans rfl
set_option maxRecDepth 100000 in
set_option maxHeartbeats 2000000 in
theorem h_X5_sumOf_4 (v1 : Int32) (v2 : Int32) (v3 : Int32) (σ : ts_S) : H_X5_sumOf_4 v1 v2 v3 σ = (ts_ck (nI 1) 111 <| if (σ 6 1 1) ≤ v3 then (some (some (.inl v2), σ)) else ts_bi (F_X5_sillIs [.inr (.inr (.inl (6, 0))), .inl v3, .inl v1] σ) fun x2 σ1 => ts_ni (v2 + x2) fun y3 => H_X5_sumOf_4 v1 y3 (v3 + (nI 1)) σ1) := by
  exact (ts_unf E_X5_sumOf tb_X5_sumOf [4] 24 _).trans rfl
noncomputable def H_X5_heard_4 (v1 : Int32) (v2 : Int32) (σ : ts_S) : Option ts_A := ts_R E_X5_heard tb_X5_heard (4, [some (.inr (.inr (.inl (6, 0)))), some (.inl v1), some (.inl v2)], [], σ)
set_option maxRecDepth 100000 in
set_option maxHeartbeats 2000000 in
theorem e_X5_heard (σ : ts_S) : F_X5_heard [.inr (.inr (.inl (6, 0)))] σ = (H_X5_heard_4 (nI 0) (nI 0) σ) := by
  exact (ts_unf E_X5_heard tb_X5_heard [4] 24 _).trans rfl
set_option maxRecDepth 100000 in
set_option maxHeartbeats 2000000 in
theorem h_X5_heard_4 (v1 : Int32) (v2 : Int32) (σ : ts_S) : H_X5_heard_4 v1 v2 σ = (ts_ck (nI 3) 111 <| if (σ 6 1 3) ≤ v2 then (some (some (.inl v1), σ)) else ts_bi (F_X5_personIs [.inr (.inr (.inl (6, 0))), .inl v2, .inl (nI 0)] σ) fun x2 σ1 => ts_ni (v1 ||| x2) fun y3 => H_X5_heard_4 y3 (v2 + (nI 1)) σ1) := by
  exact (ts_unf E_X5_heard tb_X5_heard [4] 24 _).trans rfl
noncomputable def H_X5_allKept_4 (v1 : Int32) (v2 : Int32) (σ : ts_S) : Option ts_A := ts_R E_X5_allKept tb_X5_allKept (4, [some (.inr (.inr (.inl (6, 0)))), some (.inl v1), some (.inl v2)], [], σ)
set_option maxRecDepth 100000 in
set_option maxHeartbeats 2000000 in
theorem e_X5_allKept (σ : ts_S) : F_X5_allKept [.inr (.inr (.inl (6, 0)))] σ = (H_X5_allKept_4 (nI 0) (nI 0) σ) := by
  exact (ts_unf E_X5_allKept tb_X5_allKept [4] 23 _).trans rfl
set_option maxRecDepth 100000 in
set_option maxHeartbeats 2000000 in
theorem h_X5_allKept_4 (v1 : Int32) (v2 : Int32) (σ : ts_S) : H_X5_allKept_4 v1 v2 σ = (ts_ck (nI 1) 111 <| if (σ 6 1 1) ≤ v2 then (some (some (.inl v1), σ)) else ts_bi (F_X5_keptSet [.inr (.inr (.inl (6, 0))), .inl v2] σ) fun x2 σ1 => ts_ni (v1 ||| x2) fun y3 => H_X5_allKept_4 y3 (v2 + (nI 1)) σ1) := by
  exact (ts_unf E_X5_allKept tb_X5_allKept [4] 23 _).trans rfl
noncomputable def H_X5_inside_4 (v1 : Int32) (v2 : Int32) (σ : ts_S) : Option ts_A := ts_R E_X5_inside tb_X5_inside (4, [some (.inr (.inr (.inl (6, 0)))), some (.inl v1), some (.inl v2)], [], σ)
set_option maxRecDepth 100000 in
set_option maxHeartbeats 2000000 in
theorem e_X5_inside (σ : ts_S) : F_X5_inside [.inr (.inr (.inl (6, 0)))] σ = (H_X5_inside_4 (nI 0) (nI 0) σ) := by
  exact (ts_unf E_X5_inside tb_X5_inside [4] 30 _).trans rfl
set_option maxRecDepth 100000 in
set_option maxHeartbeats 2000000 in
theorem h_X5_inside_4 (v1 : Int32) (v2 : Int32) (σ : ts_S) : H_X5_inside_4 v1 v2 σ = (ts_ck (nI 3) 111 <| if (σ 6 1 3) ≤ v2 then (some (some (.inl v1), σ)) else ts_bi (F_X5_personIs [.inr (.inr (.inl (6, 0))), .inl v2, .inl (nI 1)] σ) fun x2 σ1 => if nI 0 ≤ x2 then (ts_ni (v1 ||| ((nI 1) <<< (v2 &&& nI 31))) fun y3 => H_X5_inside_4 y3 (v2 + (nI 1)) σ1) else ts_ni (v1 ||| (nI 0)) fun y4 => H_X5_inside_4 y4 (v2 + (nI 1)) σ1) := by
  exact (ts_unf E_X5_inside tb_X5_inside [4] 30 _).trans rfl
noncomputable def H_X5_muteOnes_4 (v1 : Int32) (v2 : Int32) (σ : ts_S) : Option ts_A := ts_R E_X5_muteOnes tb_X5_muteOnes (4, [some (.inr (.inr (.inl (6, 0)))), some (.inl v1), some (.inl v2)], [], σ)
set_option maxRecDepth 100000 in
set_option maxHeartbeats 2000000 in
theorem e_X5_muteOnes (σ : ts_S) : F_X5_muteOnes [.inr (.inr (.inl (6, 0)))] σ = (H_X5_muteOnes_4 (nI 0) (nI 0) σ) := by
  exact (ts_unf E_X5_muteOnes tb_X5_muteOnes [4] 30 _).trans rfl
set_option maxRecDepth 100000 in
set_option maxHeartbeats 2000000 in
theorem h_X5_muteOnes_4 (v1 : Int32) (v2 : Int32) (σ : ts_S) : H_X5_muteOnes_4 v1 v2 σ = (ts_ck (nI 3) 111 <| if (σ 6 1 3) ≤ v2 then (some (some (.inl v1), σ)) else ts_bi (F_X5_personIs [.inr (.inr (.inl (6, 0))), .inl v2, .inl (nI 0)] σ) fun x2 σ1 => if x2 = nI 0 then (ts_ni (v1 ||| ((nI 1) <<< (v2 &&& nI 31))) fun y3 => H_X5_muteOnes_4 y3 (v2 + (nI 1)) σ1) else ts_ni (v1 ||| (nI 0)) fun y4 => H_X5_muteOnes_4 y4 (v2 + (nI 1)) σ1) := by
  exact (ts_unf E_X5_muteOnes tb_X5_muteOnes [4] 30 _).trans rfl
