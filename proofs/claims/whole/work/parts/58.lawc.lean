/-! the cases -/
theorem lkc_0 : lk_i 224 3 13 17 1315 = true := by decide +kernel
theorem lkc_1 : lk_i 267 1 18 22 1292 = true := by decide +kernel
theorem lkc_2 : lk_i 290 1 23 26 1269 = true := by decide +kernel
theorem lkc_3 : lk_i 313 1 27 30 1246 = true := by decide +kernel
theorem lkc_4 : lk_i 336 2 31 35 1213 = true := by decide +kernel
theorem lkc_5 : lk_i 369 2 36 39 1180 = true := by decide +kernel
theorem lkc_6 : lk_i 402 3 40 43 1137 = true := by decide +kernel
theorem lkc_7 : lk_i 445 2 44 47 1104 = true := by decide +kernel
theorem lkc_8 : lk_i 478 2 48 51 1071 = true := by decide +kernel
theorem lkc_9 : lk_i 511 3 52 55 1028 = true := by decide +kernel
theorem lkc_10 : lk_i 554 2 56 59 995 = true := by decide +kernel
theorem lkc_11 : lk_i 587 2 60 63 962 = true := by decide +kernel
theorem lkc_12 : lk_i 620 1 64 67 939 = true := by decide +kernel
theorem lkc_13 : lk_i 643 1 68 71 916 = true := by decide +kernel
theorem lkc_14 : lk_i 666 3 72 75 873 = true := by decide +kernel
theorem lkc_15 : lk_i 709 3 76 79 830 = true := by decide +kernel
theorem lkc_16 : lk_i 752 2 80 83 797 = true := by decide +kernel
theorem lkc_17 : lk_i 785 1 84 87 774 = true := by decide +kernel
theorem lkc_18 : lk_i 808 1 88 91 751 = true := by decide +kernel
theorem lkc_19 : lk_i 831 2 92 95 718 = true := by decide +kernel
theorem lkc_20 : lk_i 864 2 96 99 685 = true := by decide +kernel
theorem lkc_21 : lk_i 897 3 100 103 642 = true := by decide +kernel
theorem lkc_22 : lk_i 940 3 104 107 599 = true := by decide +kernel
theorem lkc_23 : lk_i 983 2 108 111 566 = true := by decide +kernel
theorem lkc_24 : lk_i 1016 2 112 115 533 = true := by decide +kernel
theorem lkc_25 : lk_i 1049 2 116 119 500 = true := by decide +kernel
theorem lkc_26 : lk_i 1082 1 120 123 477 = true := by decide +kernel
theorem lkc_27 : lk_l 1105 3 124 128 433 = true := by decide +kernel
theorem lkc_28 : lk_i 1149 1 129 132 410 = true := by decide +kernel
theorem lkc_29 : lk_i 1172 2 133 136 377 = true := by decide +kernel
theorem lkc_30 : lk_i 1205 0 137 141 364 = true := by decide +kernel
theorem lkc_31 : lk_i 1218 0 142 145 351 = true := by decide +kernel
theorem lkc_32 : lk_i 1231 2 146 149 318 = true := by decide +kernel
theorem lkc_33 : lk_i 1264 2 150 153 285 = true := by decide +kernel
theorem lkc_34 : lk_i 1297 3 154 157 242 = true := by decide +kernel
theorem lkc_35 : lk_i 1340 3 158 161 199 = true := by decide +kernel
theorem lkc_36 : lk_i 1383 5 162 166 136 = true := by decide +kernel
theorem lkc_37 : lk_i 1446 1 167 170 113 = true := by decide +kernel
theorem lkc_38 : lk_i 1469 1 171 174 90 = true := by decide +kernel
theorem lkc_39 : lk_i 1492 0 175 178 77 = true := by decide +kernel
theorem lkc_40 : lk_i 1505 0 179 182 64 = true := by decide +kernel
theorem lkc_41 : lk_i 1518 0 183 186 51 = true := by decide +kernel
theorem lkc_42 : lk_i 1531 1 187 190 28 = true := by decide +kernel
theorem lkc_43 : lk_i 1554 1 191 194 5 = true := by decide +kernel
section LWC
variable {X : ts_X} {p : Program} {l : Launch} {e : Env} {s : State} {m : MethodId} {below : List Frame} {meth : Method} {c : Code} {b L : Nat} {xs : Nat → Int32} {Q : State → Prop}
set_option maxHeartbeats 4000000 in
set_option maxRecDepth 100000 in
theorem lw_loop (hL : L ≤ 3072) (C0 : lw_At p s m meth c b L xs) (hA : X.2.2.2.2.2.2 = fun q => s.heap.size ≤ q) (C : ts_Cx X p s m #[Value.ref b] meth c code 4 RL lw_tbl) (hJ : ts_J X l) : ∀ (t i : Nat) (σ : ts_S) (H : Heap) (locs : List Loc) (ls : Array Slot), L ≤ i + 6 * t + 5 → i ≤ 3500 → INV σ → va_P X.1 ts_vc (ts_ws X σ) H → va_S X.2.2.2.2.2.2 s.heap H locs → lv_has ls 4 [(0, .ref b), (1, .ref (X.2.1 0 0)), (2, .ref (X.2.1 6 0)), (3, .int (nI i))] → W p l e room_1 s m #[Value.ref b] below meth c H locs 53 2331 (lw_Z below #[Value.ref b] s) (F0 m 18 ls []) := by
  obtain ⟨hx, hb, hr, hml, hown, hts, hX, hbl, hlocks, hgv⟩ := id C0
  have hbA : ¬ X.2.2.2.2.2.2 b := by rw [hA]; exact Nat.not_le.mpr hbl
  have hend : ∀ (i : Nat) (σ : ts_S) (H : Heap) (locs : List Loc) (ls : Array Slot), va_S X.2.2.2.2.2.2 s.heap H locs → W p l e room_1 s m #[Value.ref b] below meth c H locs 53 2331 (lw_Z below #[Value.ref b] s) (F0 m 1583 ls []) := by
    intro i σ H locs ls hS
    refine lv_iconst (v := 1) hx hb dL_1583 (by decide) ?_
    refine va_forget (fun q hq => by have := hS.2.2 q hq; rw [hA] at this; exact this) ?_
    exact lw_ret hx hb hr hlocks dL_1584
  intro t
  induction t with
  | zero =>
    intro i σ H locs ls ht hi I hP hS hl
    refine lv_iload_n hx hb dL_18 rfl (lv_at hl 3 rfl) ?_
    refine lv_aload_n hx hb dL_19 rfl (lv_at hl 0 rfl) ?_
    refine va_slen hx hb hX hbl hbA hS dL_20 ?_
    refine lv_bipush (v := 6) hx hb dL_21 (by decide) ?_
    refine lv_isub hx hb dL_23 ?_
    exact lv_icmp_gt (tgt := 1583) hx hb dL_24 (by decide) (fun _ => hend i σ H locs ls hS) (fun q => absurd ((lw_end hL (by omega)).mpr (by omega)) q)
  | succ t ih =>
    intro i σ H locs ls ht hi I hP hS hl
    refine lv_iload_n hx hb dL_18 rfl (lv_at hl 3 rfl) ?_
    refine lv_aload_n hx hb dL_19 rfl (lv_at hl 0 rfl) ?_
    refine va_slen hx hb hX hbl hbA hS dL_20 ?_
    refine lv_bipush (v := 6) hx hb dL_21 (by decide) ?_
    refine lv_isub hx hb dL_23 ?_
    refine lv_icmp_gt (tgt := 1583) hx hb dL_24 (by decide) (fun _ => hend i σ H locs ls hS) (fun q => ?_)
    have hi6 : i + 6 ≤ L := by
      rcases Nat.lt_or_ge L (i + 6) with z | z
      · exact absurd ((lw_end hL (by omega)).mpr z) q
      · exact z
    have kk : ∀ (σ2 : ts_S) (H1 : Heap) (locs1 : List Loc), INV σ2 → va_P X.1 ts_vc (ts_ws X σ2) H1 → va_S X.2.2.2.2.2.2 s.heap H1 locs1 → W p l e room_1 s m #[Value.ref b] below meth c H1 locs1 53 2331 (lw_Z below #[Value.ref b] s) (F0 m 1577 ls []) := by
      intro σ2 H1 locs1 I2 hP1 hS1
      refine lv_iinc (v := nI (i + 6)) (lv' := [(3, .int (nI (i + 6))), (0, .ref b), (1, .ref (X.2.1 0 0)), (2, .ref (X.2.1 6 0))]) hx hb dL_1577 hl (k := 3) rfl (by rw [← nI_add]; rfl) (by decide) rfl (fun ls hl => ?_)
      refine lv_goto (tgt := 18) hx hb dL_1580 (by decide) ?_
      exact ih (i + 6) σ2 H1 locs1 ls (by omega) (by omega) I2 hP1 hS1 (lv_sub hl [1, 2, 3, 0] rfl)
    refine lv_aload_n hx hb dL_27 rfl (lv_at hl 0 rfl) ?_
    refine lv_iload_n hx hb dL_28 rfl (lv_at hl 3 rfl) ?_
    refine va_sld hx hb hX hbl hbA hS (i := nI i) (show vp_in (nI i) L from vp_in_nI (by omega) (by omega)) dL_29 ?_
    refine lv_bipush (v := 63) hx hb dL_30 (by decide) ?_
    refine lv_iand hx hb dL_32 ?_
    generalize xs (nI i).toNatClampNeg &&& 63 = v
    by_cases h0 : v.toInt < 0 ∨ 43 < v.toInt
    · refine lv_tableOut (tgt := 1577) hx hb dL_33 h0 (by decide) ?_
      exact kk σ H locs I hP hS
    · have h1 : ¬ v.toInt < 0 := fun z => h0 (Or.inl z)
      have h2 : ¬ 43 < v.toInt := fun z => h0 (Or.inr z)
      have hv : (v.toInt - 0).toNat < 44 := by omega
      generalize hk : (v.toInt - 0).toNat = k at hv
      have go : ∀ (off : Int) (tgt : Nat), (#[191, 234, 257, 280, 303, 336, 369, 412, 445, 478, 521, 554, 587, 610, 633, 676, 719, 752, 775, 798, 831, 864, 907, 950, 983, 1016, 1049, 1072, 1116, 1139, 1172, 1185, 1198, 1231, 1264, 1307, 1350, 1413, 1436, 1459, 1472, 1485, 1498, 1521] : Array Int)[k]? = some off → (33 : Int) + off = (tgt : Int) → W p l e room_1 s m #[Value.ref b] below meth c H locs 53 2331 (lw_Z below #[Value.ref b] s) (F0 m tgt ls []) → W p l e room_1 s m #[Value.ref b] below meth c H locs 53 2331 (lw_Z below #[Value.ref b] s) (F0 m 33 ls [.int v]) := by
        intro off tgt ho ht kw
        exact lv_tableIn hx hb dL_33 h1 h2 (by rw [hk]; exact ho) ht kw
      rcases (show k = 0 ∨ k = 1 ∨ k = 2 ∨ k = 3 ∨ k = 4 ∨ k = 5 ∨ k = 6 ∨ k = 7 ∨ k = 8 ∨ k = 9 ∨ k = 10 ∨ k = 11 ∨ k = 12 ∨ k = 13 ∨ k = 14 ∨ k = 15 ∨ k = 16 ∨ k = 17 ∨ k = 18 ∨ k = 19 ∨ k = 20 ∨ k = 21 ∨ k = 22 ∨ k = 23 ∨ k = 24 ∨ k = 25 ∨ k = 26 ∨ k = 27 ∨ k = 28 ∨ k = 29 ∨ k = 30 ∨ k = 31 ∨ k = 32 ∨ k = 33 ∨ k = 34 ∨ k = 35 ∨ k = 36 ∨ k = 37 ∨ k = 38 ∨ k = 39 ∨ k = 40 ∨ k = 41 ∨ k = 42 ∨ k = 43 by omega) with rfl | rfl | rfl | rfl | rfl | rfl | rfl | rfl | rfl | rfl | rfl | rfl | rfl | rfl | rfl | rfl | rfl | rfl | rfl | rfl | rfl | rfl | rfl | rfl | rfl | rfl | rfl | rfl | rfl | rfl | rfl | rfl | rfl | rfl | rfl | rfl | rfl | rfl | rfl | rfl | rfl | rfl | rfl | rfl
      · exact go 191 224 rfl (by decide) (lw_case C hX hbl hbA hi6 hL I hP hS hl kk lkc_0 (by omega) (sim_list _ _ _) (con_X4_list hJ) (con_X5_list hJ) mw_63 mw_126 ⟨by omega, by omega⟩ ⟨rfl, rfl⟩ ⟨rfl, rfl⟩ (ts_wx_in (q := 1161) (by decide +kernel)) (ts_wx_in (q := 4048) (by decide +kernel)))
      · exact go 234 267 rfl (by decide) (lw_case C hX hbl hbA hi6 hL I hP hS hl kk lkc_1 (by omega) (sim_listed _) (con_X4_listed hJ) (con_X5_listed hJ) mw_64 mw_127 ⟨by omega, by omega⟩ ⟨rfl, rfl⟩ ⟨rfl, rfl⟩ (ts_wx_in (q := 1173) (by decide +kernel)) (ts_wx_in (q := 4067) (by decide +kernel)))
      · exact go 257 290 rfl (by decide) (lw_case C hX hbl hbA hi6 hL I hP hS hl kk lkc_2 (by omega) (sim_sill _) (con_X4_sill hJ) (con_X5_sill hJ) mw_65 mw_137 ⟨by omega, by omega⟩ ⟨rfl, rfl⟩ ⟨rfl, rfl⟩ (ts_wx_in (q := 1177) (by decide +kernel)) (ts_wx_in (q := 4071) (by decide +kernel)))
      · exact go 280 313 rfl (by decide) (lw_case C hX hbl hbA hi6 hL I hP hS hl kk lkc_3 (by omega) (sim_person _) (con_X4_person hJ) (con_X5_person hJ) mw_67 mw_139 ⟨by omega, by omega⟩ ⟨rfl, rfl⟩ ⟨rfl, rfl⟩ (ts_wx_in (q := 1185) (by decide +kernel)) (ts_wx_in (q := 4086) (by decide +kernel)))
      · exact go 303 336 rfl (by decide) (lw_case C hX hbl hbA hi6 hL I hP hS hl kk lkc_4 (by omega) (sim_of _ _) (con_X4_of hJ) (con_X5_of hJ) mw_68 mw_148 ⟨by omega, by omega⟩ ⟨rfl, rfl⟩ ⟨rfl, rfl⟩ (ts_wx_in (q := 1196) (by decide +kernel)) (ts_wx_in (q := 4100) (by decide +kernel)))
      · exact go 336 369 rfl (by decide) (lw_case C hX hbl hbA hi6 hL I hP hS hl kk lkc_5 (by omega) (sim_word _ _) (con_X4_word hJ) (con_X5_word hJ) mw_69 mw_149 ⟨by omega, by omega⟩ ⟨rfl, rfl⟩ ⟨rfl, rfl⟩ (ts_wx_in (q := 1227) (by decide +kernel)) (ts_wx_in (q := 4132) (by decide +kernel)))
      · exact go 369 402 rfl (by decide) (lw_case C hX hbl hbA hi6 hL I hP hS hl kk lkc_6 (by omega) (sim_change _ _ _) (con_X4_change hJ) (con_X5_change hJ) mw_71 mw_150 ⟨by omega, by omega⟩ ⟨rfl, rfl⟩ ⟨rfl, rfl⟩ (ts_wx_in (q := 1232) (by decide +kernel)) (ts_wx_in (q := 4137) (by decide +kernel)))
      · exact go 412 445 rfl (by decide) (lw_case C hX hbl hbA hi6 hL I hP hS hl kk lkc_7 (by omega) (sim_lay _ _) (con_X4_lay hJ) (con_X5_lay hJ) mw_72 mw_152 ⟨by omega, by omega⟩ ⟨rfl, rfl⟩ ⟨rfl, rfl⟩ (ts_wx_in (q := 1239) (by decide +kernel)) (ts_wx_in (q := 4141) (by decide +kernel)))
      · exact go 445 478 rfl (by decide) (lw_case C hX hbl hbA hi6 hL I hP hS hl kk lkc_8 (by omega) (sim_ofPerson _ _) (con_X4_ofPerson hJ) (con_X5_ofPerson hJ) mw_73 mw_153 ⟨by omega, by omega⟩ ⟨rfl, rfl⟩ ⟨rfl, rfl⟩ (ts_wx_in (q := 2007) (by decide +kernel)) (ts_wx_in (q := 4152) (by decide +kernel)))
      · exact go 478 511 rfl (by decide) (lw_case C hX hbl hbA hi6 hL I hP hS hl kk lkc_9 (by omega) (sim_send _ _ _) (con_X4_send hJ) (con_X5_send hJ) mw_74 mw_154 ⟨by omega, by omega⟩ ⟨rfl, rfl⟩ ⟨rfl, rfl⟩ (ts_wx_in (q := 2019) (by decide +kernel)) (ts_wx_in (q := 4164) (by decide +kernel)))
      · exact go 521 554 rfl (by decide) (lw_case C hX hbl hbA hi6 hL I hP hS hl kk lkc_10 (by omega) (sim_takes _ _) (con_X4_takes hJ) (con_X5_takes hJ) mw_75 mw_155 ⟨by omega, by omega⟩ ⟨rfl, rfl⟩ ⟨rfl, rfl⟩ (ts_wx_in (q := 2023) (by decide +kernel)) (ts_wx_in (q := 4168) (by decide +kernel)))
      · exact go 554 587 rfl (by decide) (lw_case C hX hbl hbA hi6 hL I hP hS hl kk lkc_11 (by omega) (sim_cross _ _) (con_X4_cross hJ) (con_X5_cross hJ) mw_76 mw_161 ⟨by omega, by omega⟩ ⟨rfl, rfl⟩ ⟨rfl, rfl⟩ (ts_wx_in (q := 2037) (by decide +kernel)) (ts_wx_in (q := 4186) (by decide +kernel)))
      · exact go 587 620 rfl (by decide) (lw_case C hX hbl hbA hi6 hL I hP hS hl kk lkc_12 (by omega) (sim_go _) (con_X4_go hJ) (con_X5_go hJ) mw_77 mw_164 ⟨by omega, by omega⟩ ⟨rfl, rfl⟩ ⟨rfl, rfl⟩ (ts_wx_in (q := 2078) (by decide +kernel)) (ts_wx_in (q := 4213) (by decide +kernel)))
      · exact go 610 643 rfl (by decide) (lw_case C hX hbl hbA hi6 hL I hP hS hl kk lkc_13 (by omega) (sim_now _) (con_X4_now hJ) (con_X5_now hJ) mw_78 mw_170 ⟨by omega, by omega⟩ ⟨rfl, rfl⟩ ⟨rfl, rfl⟩ (ts_wx_in (q := 2095) (by decide +kernel)) (ts_wx_in (q := 4229) (by decide +kernel)))
      · exact go 633 666 rfl (by decide) (lw_case C hX hbl hbA hi6 hL I hP hS hl kk lkc_14 (by omega) (sim_ahead _ _ _) (con_X4_ahead hJ) (con_X5_ahead hJ) mw_80 mw_172 ⟨by omega, by omega⟩ ⟨rfl, rfl⟩ ⟨rfl, rfl⟩ (ts_wx_in (q := 2123) (by decide +kernel)) (ts_wx_in (q := 5013) (by decide +kernel)))
      · exact go 676 709 rfl (by decide) (lw_case C hX hbl hbA hi6 hL I hP hS hl kk lkc_15 (by omega) (sim_later _ _ _) (con_X4_later hJ) (con_X5_later hJ) mw_81 mw_173 ⟨by omega, by omega⟩ ⟨rfl, rfl⟩ ⟨rfl, rfl⟩ (ts_wx_in (q := 2138) (by decide +kernel)) (ts_wx_in (q := 5024) (by decide +kernel)))
      · exact go 719 752 rfl (by decide) (lw_case C hX hbl hbA hi6 hL I hP hS hl kk lkc_16 (by omega) (sim_hears _ _) (con_X4_hears hJ) (con_X5_hears hJ) mw_82 mw_175 ⟨by omega, by omega⟩ ⟨rfl, rfl⟩ ⟨rfl, rfl⟩ (ts_wx_in (q := 2142) (by decide +kernel)) (ts_wx_in (q := 5032) (by decide +kernel)))
      · exact go 752 785 rfl (by decide) (lw_case C hX hbl hbA hi6 hL I hP hS hl kk lkc_17 (by omega) (sim_waste _) (con_X4_waste hJ) (con_X5_waste hJ) mw_83 mw_177 ⟨by omega, by omega⟩ ⟨rfl, rfl⟩ ⟨rfl, rfl⟩ (ts_wx_in (q := 2147) (by decide +kernel)) (ts_wx_in (q := 5040) (by decide +kernel)))
      · exact go 775 808 rfl (by decide) (lw_case C hX hbl hbA hi6 hL I hP hS hl kk lkc_18 (by omega) (sim_mute _) (con_X4_mute hJ) (con_X5_mute hJ) mw_84 mw_178 ⟨by omega, by omega⟩ ⟨rfl, rfl⟩ ⟨rfl, rfl⟩ (ts_wx_in (q := 2151) (by decide +kernel)) (ts_wx_in (q := 5048) (by decide +kernel)))
      · exact go 798 831 rfl (by decide) (lw_case C hX hbl hbA hi6 hL I hP hS hl kk lkc_19 (by omega) (sim_sillFor _ _) (con_X4_sillFor hJ) (con_X5_sillFor hJ) mw_85 mw_181 ⟨by omega, by omega⟩ ⟨rfl, rfl⟩ ⟨rfl, rfl⟩ (ts_wx_in (q := 2155) (by decide +kernel)) (ts_wx_in (q := 5052) (by decide +kernel)))
      · exact go 831 864 rfl (by decide) (lw_case C hX hbl hbA hi6 hL I hP hS hl kk lkc_20 (by omega) (sim_kindFor _ _) (con_X4_kindFor hJ) (con_X5_kindFor hJ) mw_86 mw_182 ⟨by omega, by omega⟩ ⟨rfl, rfl⟩ ⟨rfl, rfl⟩ (ts_wx_in (q := 2160) (by decide +kernel)) (ts_wx_in (q := 5064) (by decide +kernel)))
      · exact go 864 897 rfl (by decide) (lw_case C hX hbl hbA hi6 hL I hP hS hl kk lkc_21 (by omega) (sim_wordFor _ _ _) (con_X4_wordFor hJ) (con_X5_wordFor hJ) mw_87 mw_183 ⟨by omega, by omega⟩ ⟨rfl, rfl⟩ ⟨rfl, rfl⟩ (ts_wx_in (q := 2164) (by decide +kernel)) (ts_wx_in (q := 5068) (by decide +kernel)))
      · exact go 907 940 rfl (by decide) (lw_case C hX hbl hbA hi6 hL I hP hS hl kk lkc_22 (by omega) (sim_mend _ _ _) (con_X4_mend hJ) (con_X5_mend hJ) mw_90 mw_185 ⟨by omega, by omega⟩ ⟨rfl, rfl⟩ ⟨rfl, rfl⟩ (ts_wx_in (q := 2168) (by decide +kernel)) (ts_wx_in (q := 5072) (by decide +kernel)))
      · exact go 950 983 rfl (by decide) (lw_case C hX hbl hbA hi6 hL I hP hS hl kk lkc_23 (by omega) (sim_seek _ _) (con_X4_seek hJ) (con_X5_seek hJ) mw_91 mw_186 ⟨by omega, by omega⟩ ⟨rfl, rfl⟩ ⟨rfl, rfl⟩ (ts_wx_in (q := 2182) (by decide +kernel)) (ts_wx_in (q := 5083) (by decide +kernel)))
      · exact go 983 1016 rfl (by decide) (lw_case C hX hbl hbA hi6 hL I hP hS hl kk lkc_24 (by omega) (sim_fits _ _) (con_X4_fits hJ) (con_X5_fits hJ) mw_93 mw_190 ⟨by omega, by omega⟩ ⟨rfl, rfl⟩ ⟨rfl, rfl⟩ (ts_wx_in (q := 2186) (by decide +kernel)) (ts_wx_in (q := 5087) (by decide +kernel)))
      · exact go 1016 1049 rfl (by decide) (lw_case C hX hbl hbA hi6 hL I hP hS hl kk lkc_25 (by omega) (sim_kinds _ _) (con_X4_kinds hJ) (con_X5_kinds hJ) mw_95 mw_191 ⟨by omega, by omega⟩ ⟨rfl, rfl⟩ ⟨rfl, rfl⟩ (ts_wx_in (q := 2207) (by decide +kernel)) (ts_wx_in (q := 5103) (by decide +kernel)))
      · exact go 1049 1082 rfl (by decide) (lw_case C hX hbl hbA hi6 hL I hP hS hl kk lkc_26 (by omega) (sim_stroll _) (con_X4_stroll hJ) (con_X5_stroll hJ) mw_96 mw_193 ⟨by omega, by omega⟩ ⟨rfl, rfl⟩ ⟨rfl, rfl⟩ (ts_wx_in (q := 2215) (by decide +kernel)) (ts_wx_in (q := 5107) (by decide +kernel)))
      · exact go 1072 1105 rfl (by decide) (lw_casel C hX hbl hbA hi6 hL I hP hS hl kk lkc_27 (by omega) (sim_odds _ _ _) (con_X4_odds hJ) (con_X5_odds hJ) mw_99 mw_194 ⟨by omega, by omega⟩ ⟨rfl, rfl⟩ ⟨rfl, rfl⟩ (ts_wx_in (q := 2224) (by decide +kernel)) (ts_wx_in (q := 5116) (by decide +kernel)))
      · exact go 1116 1149 rfl (by decide) (lw_case C hX hbl hbA hi6 hL I hP hS hl kk lkc_28 (by omega) (sim_seed _) (con_X4_seed hJ) (con_X5_seed hJ) mw_100 mw_195 ⟨by omega, by omega⟩ ⟨rfl, rfl⟩ ⟨rfl, rfl⟩ (ts_wx_in (q := 2234) (by decide +kernel)) (ts_wx_in (q := 5120) (by decide +kernel)))
      · exact go 1139 1172 rfl (by decide) (lw_case C hX hbl hbA hi6 hL I hP hS hl kk lkc_29 (by omega) (sim_feed _ _) (con_X4_feed hJ) (con_X5_feed hJ) mw_101 mw_196 ⟨by omega, by omega⟩ ⟨rfl, rfl⟩ ⟨rfl, rfl⟩ (ts_wx_in (q := 2238) (by decide +kernel)) (ts_wx_in (q := 5124) (by decide +kernel)))
      · exact go 1172 1205 rfl (by decide) (lw_case C hX hbl hbA hi6 hL I hP hS hl kk lkc_30 (by omega) (sim_wipe) (con_X4_wipe hJ) (con_X5_wipe hJ) mw_102 mw_197 ⟨by omega, by omega⟩ ⟨rfl, rfl⟩ ⟨rfl, rfl⟩ (ts_wx_in (q := 3006) (by decide +kernel)) (ts_wx_in (q := 5128) (by decide +kernel)))
      · exact go 1185 1218 rfl (by decide) (lw_case C hX hbl hbA hi6 hL I hP hS hl kk lkc_31 (by omega) (sim_text) (con_X4_text hJ) (con_X5_text hJ) mw_103 mw_208 ⟨by omega, by omega⟩ ⟨rfl, rfl⟩ ⟨rfl, rfl⟩ (ts_wx_in (q := 3010) (by decide +kernel)) (ts_wx_in (q := 5132) (by decide +kernel)))
      · exact go 1198 1231 rfl (by decide) (lw_case C hX hbl hbA hi6 hL I hP hS hl kk lkc_32 (by omega) (sim_hold _ _) (con_X4_hold hJ) (con_X5_hold hJ) mw_104 mw_210 ⟨by omega, by omega⟩ ⟨rfl, rfl⟩ ⟨rfl, rfl⟩ (ts_wx_in (q := 3129) (by decide +kernel)) (ts_wx_in (q := 5184) (by decide +kernel)))
      · exact go 1231 1264 rfl (by decide) (lw_case C hX hbl hbA hi6 hL I hP hS hl kk lkc_33 (by omega) (sim_as _ _) (con_X4_as hJ) (con_X5_as hJ) mw_105 mw_213 ⟨by omega, by omega⟩ ⟨rfl, rfl⟩ ⟨rfl, rfl⟩ (ts_wx_in (q := 3133) (by decide +kernel)) (ts_wx_in (q := 5191) (by decide +kernel)))
      · exact go 1264 1297 rfl (by decide) (lw_case C hX hbl hbA hi6 hL I hP hS hl kk lkc_34 (by omega) (sim_sheet _ _ _) (con_X4_sheet hJ) (con_X5_sheet hJ) mw_106 mw_215 ⟨by omega, by omega⟩ ⟨rfl, rfl⟩ ⟨rfl, rfl⟩ (ts_wx_in (q := 3143) (by decide +kernel)) (ts_wx_in (q := 5202) (by decide +kernel)))
      · exact go 1307 1340 rfl (by decide) (lw_case C hX hbl hbA hi6 hL I hP hS hl kk lkc_35 (by omega) (sim_write _ _ _) (con_X4_write hJ) (con_X5_write hJ) mw_107 mw_216 ⟨by omega, by omega⟩ ⟨rfl, rfl⟩ ⟨rfl, rfl⟩ (ts_wx_in (q := 3151) (by decide +kernel)) (ts_wx_in (q := 5207) (by decide +kernel)))
      · exact go 1350 1383 rfl (by decide) (lw_case C hX hbl hbA hi6 hL I hP hS hl kk lkc_36 (by omega) (sim_copy _ _ _ _ _) (con_X4_copy hJ) (con_X5_copy hJ) mw_108 mw_217 ⟨by omega, by omega⟩ ⟨rfl, rfl⟩ ⟨rfl, rfl⟩ (ts_wx_in (q := 3162) (by decide +kernel)) (ts_wx_in (q := 5214) (by decide +kernel)))
      · exact go 1413 1446 rfl (by decide) (lw_case C hX hbl hbA hi6 hL I hP hS hl kk lkc_37 (by omega) (sim_load _) (con_X4_load hJ) (con_X5_load hJ) mw_109 mw_218 ⟨by omega, by omega⟩ ⟨rfl, rfl⟩ ⟨rfl, rfl⟩ (ts_wx_in (q := 3175) (by decide +kernel)) (ts_wx_in (q := 5218) (by decide +kernel)))
      · exact go 1436 1469 rfl (by decide) (lw_case C hX hbl hbA hi6 hL I hP hS hl kk lkc_38 (by omega) (sim_judge _) (con_X4_judge hJ) (con_X5_judge hJ) mw_110 mw_219 ⟨by omega, by omega⟩ ⟨rfl, rfl⟩ ⟨rfl, rfl⟩ (ts_wx_in (q := 3181) (by decide +kernel)) (ts_wx_in (q := 5222) (by decide +kernel)))
      · exact go 1459 1492 rfl (by decide) (lw_case C hX hbl hbA hi6 hL I hP hS hl kk lkc_39 (by omega) (sim_image) (con_X4_image hJ) (con_X5_image hJ) mw_111 mw_220 ⟨by omega, by omega⟩ ⟨rfl, rfl⟩ ⟨rfl, rfl⟩ (ts_wx_in (q := 3185) (by decide +kernel)) (ts_wx_in (q := 5226) (by decide +kernel)))
      · exact go 1472 1505 rfl (by decide) (lw_case C hX hbl hbA hi6 hL I hP hS hl kk lkc_40 (by omega) (sim_undo) (con_X4_undo hJ) (con_X5_undo hJ) mw_112 mw_221 ⟨by omega, by omega⟩ ⟨rfl, rfl⟩ ⟨rfl, rfl⟩ (ts_wx_in (q := 3189) (by decide +kernel)) (ts_wx_in (q := 5230) (by decide +kernel)))
      · exact go 1485 1518 rfl (by decide) (lw_case C hX hbl hbA hi6 hL I hP hS hl kk lkc_41 (by omega) (sim_tear) (con_X4_tear hJ) (con_X5_tear hJ) mw_113 mw_222 ⟨by omega, by omega⟩ ⟨rfl, rfl⟩ ⟨rfl, rfl⟩ (ts_wx_in (q := 3193) (by decide +kernel)) (ts_wx_in (q := 5234) (by decide +kernel)))
      · exact go 1498 1531 rfl (by decide) (lw_case C hX hbl hbA hi6 hL I hP hS hl kk lkc_42 (by omega) (sim_count _) (con_X4_count hJ) (con_X5_count hJ) mw_114 mw_223 ⟨by omega, by omega⟩ ⟨rfl, rfl⟩ ⟨rfl, rfl⟩ (ts_wx_in (q := 3197) (by decide +kernel)) (ts_wx_in (q := 5238) (by decide +kernel)))
      · exact go 1521 1554 rfl (by decide) (lw_case C hX hbl hbA hi6 hL I hP hS hl kk lkc_43 (by omega) (sim_status _) (con_X4_status hJ) (con_X5_status hJ) mw_115 mw_224 ⟨by omega, by omega⟩ ⟨rfl, rfl⟩ ⟨rfl, rfl⟩ (ts_wx_in (q := 3205) (by decide +kernel)) (ts_wx_in (q := 6002) (by decide +kernel)))
end LWC
