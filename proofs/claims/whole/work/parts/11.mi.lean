/-! the methods: name, code, locals, answer, parameters, receiver -/
def ts_ML0 : List ts_M := [(yX0_parentOf, cX0_parentOf, 1, (some .int), 1, 9),
  (yX0_isUnder, cX0_isUnder, 4, (some .boolean), 2, 9),
  (yX0_nameOf, cX0_nameOf, 1, (some (.object "java/lang/String")), 1, 9),
  (yJ0_length_8abf5, cJ0_length_8abf5, 1, (some .int), 0, 8),
  (yJ0_charAt_5068e, cJ0_charAt_5068e, 2, (some .char), 1, 8),
  (yX3_isWord, cX3_isWord, 3, (some .boolean), 1, 2),
  (yX0_kindNamed, cX0_kindNamed, 2, (some .int), 1, 9),
  (yX0_mostHeld, cX0_mostHeld, 1, (some .int), 1, 9),
  (yX0_greatest, cX0_greatest, 2, (some .int), 1, 9),
  (yX0_least, cX0_least, 2, (some .int), 1, 9),
  (yX0_wordTaken, cX0_wordTaken, 6, (some .int), 3, 9),
  (yX0_placeGiven, cX0_placeGiven, 3, (some .int), 3, 9),
  (yX1_become, cX1_become, 2, none, 1, 0),
  (yX4_isBelow, cX4_isBelow, 2, (some .boolean), 2, 9),
  (yX1_isSill, cX1_isSill, 2, (some .boolean), 1, 0),
  (yX1_isPerson, cX1_isPerson, 2, (some .boolean), 1, 0),
  (yX1_hasWord, cX1_hasWord, 3, (some .boolean), 2, 0),
  (yX1_addSill, cX1_addSill, 3, (some .int), 1, 0),
  (yX1_addPerson, cX1_addPerson, 3, (some .int), 1, 0),
  (yX1_keptAt, cX1_keptAt, 3, (some .int), 2, 0),
  (yX1_keptSet, cX1_keptSet, 4, (some .int), 1, 0),
  (yX1_keep, cX1_keep, 3, (some .boolean), 2, 0),
  (yX1_dropKept, cX1_dropKept, 5, none, 2, 0),
  (yX1_placeGiven, cX1_placeGiven, 2, (some .int), 1, 0),
  (yX1_tellSill, cX1_tellSill, 3, (some .int), 2, 0),
  (yX1_tellPerson, cX1_tellPerson, 3, (some .int), 2, 0),
  (yX1_mayCross, cX1_mayCross, 3, (some .boolean), 2, 0),
  (yJ9_min_7cf53, cJ9_min_7cf53, 2, (some .int), 2, 9),
  (yX1_loseWord, cX1_loseWord, 1, none, 0, 0),
  (yX1_goIn, cX1_goIn, 5, (some .int), 2, 0),
  (yX1_comeOut, cX1_comeOut, 5, (some .int), 2, 0),
  (yX1_makeCrossing, cX1_makeCrossing, 4, (some .int), 2, 0),
  (yJ9_floorMod_7cf53, cJ9_floorMod_7cf53, 3, (some .int), 2, 9),
  (yX1_placeOfToday, cX1_placeOfToday, 1, (some .int), 0, 0),
  (yX1_passDays, cX1_passDays, 4, none, 1, 0),
  (yX1_draw, cX1_draw, 1, (some .int), 0, 0),
  (yX1_wordsHad, cX1_wordsHad, 3, (some .int), 0, 0),
  (yX1_wordsKept, cX1_wordsKept, 3, (some .int), 0, 0),
  (yX1_peopleInside, cX1_peopleInside, 3, (some .int), 0, 0),
  (yX1_peopleWithoutWords, cX1_peopleWithoutWords, 3, (some .int), 0, 0)]
def ts_ML1 : List ts_M := [(yX1_wearOfAll, cX1_wearOfAll, 3, (some .int), 0, 0),
  (yX1_keptInAll, cX1_keptInAll, 3, (some .int), 0, 0),
  (yX1_spotsInUse, cX1_spotsInUse, 3, (some .int), 0, 0),
  (yX2_isMissing, cX2_isMissing, 2, (some .boolean), 1, 1),
  (yX2_layOut, cX2_layOut, 5, none, 3, 1),
  (yX2_numberAt, cX2_numberAt, 3, (some .int), 2, 1),
  (yX2_lowestBits, cX2_lowestBits, 2, (some .int), 2, 9),
  (yX2_put, cX2_put, 4, none, 3, 1),
  (yX2_hasRange, cX2_hasRange, 4, (some .boolean), 3, 1),
  (yX2_move, cX2_move, 6, none, 5, 1),
  (yX2_admits, cX2_admits, 5, (some .boolean), 3, 1),
  (yX3_append, cX3_append, 4, (some .boolean), 2, 2),
  (yX3_isLetter, cX3_isLetter, 1, (some .boolean), 1, 9),
  (yX3_isDigit, cX3_isDigit, 1, (some .boolean), 1, 9),
  (yX3_readToken, cX3_readToken, 1, none, 0, 2),
  (yX3_isNumber, cX3_isNumber, 2, (some .boolean), 1, 2),
  (yX3_readPerson, cX3_readPerson, 3, (some .boolean), 1, 2),
  (yX3_readCrossing, cX3_readCrossing, 4, (some .boolean), 1, 2),
  (yX3_readKept, cX3_readKept, 4, (some .boolean), 2, 2),
  (yX3_readSill, cX3_readSill, 4, (some .boolean), 2, 2),
  (yX3_readItem, cX3_readItem, 3, (some .boolean), 1, 2),
  (yX3_readItems, cX3_readItems, 3, (some .int), 1, 2),
  (yX4_tell, cX4_tell, 2, (some .int), 1, 3),
  (yX4_list, cX4_list, 5, (some .int), 3, 3),
  (yX4_listed, cX4_listed, 2, (some .int), 1, 3),
  (yX4_sill, cX4_sill, 3, (some .int), 1, 3),
  (yX4_isWithin, cX4_isWithin, 3, (some .boolean), 3, 9),
  (yX4_person, cX4_person, 3, (some .int), 1, 3),
  (yX4_of, cX4_of, 3, (some .int), 2, 3),
  (yX4_word, cX4_word, 4, (some .int), 2, 3),
  (yX4_replace, cX4_replace, 4, (some .int), 3, 9),
  (yX4_change, cX4_change, 4, (some .int), 3, 3),
  (yX4_lay, cX4_lay, 3, (some .int), 2, 3),
  (yX4_ofPerson, cX4_ofPerson, 3, (some .int), 2, 3),
  (yX4_send, cX4_send, 4, (some .int), 3, 3),
  (yX4_takes, cX4_takes, 4, (some .int), 2, 3),
  (yX4_cross, cX4_cross, 3, (some .int), 2, 3),
  (yX4_go, cX4_go, 2, (some .int), 1, 3),
  (yX4_now, cX4_now, 2, (some .int), 1, 3),
  (yX4_beginTrial, cX4_beginTrial, 1, none, 0, 3)]
def ts_ML2 : List ts_M := [(yX4_ahead, cX4_ahead, 5, (some .int), 3, 3),
  (yX4_later, cX4_later, 4, (some .int), 3, 3),
  (yX4_hears, cX4_hears, 4, (some .int), 2, 3),
  (yX4_waste, cX4_waste, 3, (some .int), 1, 3),
  (yX4_mute, cX4_mute, 3, (some .int), 1, 3),
  (yX4_sillFor, cX4_sillFor, 7, (some .int), 2, 3),
  (yX4_kindFor, cX4_kindFor, 6, (some .int), 2, 3),
  (yX4_wordFor, cX4_wordFor, 5, (some .int), 3, 3),
  (yJ6_bitCount_0f7a4, cJ6_bitCount_0f7a4, 1, (some .int), 1, 9),
  (yX4_hasWhenMended, cX4_hasWhenMended, 6, (some .boolean), 4, 3),
  (yX4_mend, cX4_mend, 7, (some .int), 3, 3),
  (yX4_seek, cX4_seek, 4, (some .int), 2, 3),
  (yX4_hasAsTold, cX4_hasAsTold, 4, (some .boolean), 2, 3),
  (yX4_fits, cX4_fits, 7, (some .int), 2, 3),
  (yX4_keepsAsTold, cX4_keepsAsTold, 4, (some .boolean), 2, 3),
  (yX4_kinds, cX4_kinds, 5, (some .int), 2, 3),
  (yX4_stroll, cX4_stroll, 5, (some .int), 1, 3),
  (yX4_commonDivisor, cX4_commonDivisor, 3, (some .int), 2, 9),
  (yX4_power, cX4_power, 5, (some .long), 2, 9),
  (yX4_odds, cX4_odds, 6, (some .long), 3, 3),
  (yX4_seed, cX4_seed, 3, (some .int), 1, 3),
  (yX4_feed, cX4_feed, 3, (some .int), 2, 3),
  (yX4_wipe, cX4_wipe, 2, (some .int), 0, 3),
  (yX4_text, cX4_text, 2, (some .int), 0, 3),
  (yX4_hold, cX4_hold, 3, (some .int), 2, 3),
  (yX4_as, cX4_as, 4, (some .int), 2, 3),
  (yX4_sheet, cX4_sheet, 5, (some .int), 3, 3),
  (yX4_write, cX4_write, 4, (some .int), 3, 3),
  (yX4_copy, cX4_copy, 6, (some .int), 5, 3),
  (yX4_load, cX4_load, 5, (some .int), 1, 3),
  (yX4_judge, cX4_judge, 4, (some .int), 1, 3),
  (yX4_image, cX4_image, 1, (some .int), 0, 3),
  (yX4_undo, cX4_undo, 1, (some .int), 0, 3),
  (yX4_tear, cX4_tear, 2, (some .int), 0, 3),
  (yX4_count, cX4_count, 2, (some .int), 1, 3),
  (yX4_status, cX4_status, 4, (some .int), 1, 3),
  (yX5_finding, cX5_finding, 2, (some .int), 1, 4),
  (yX5_within, cX5_within, 3, (some .boolean), 3, 9),
  (yX5_become, cX5_become, 4, (some .int), 2, 4),
  (yX5_copyRow, cX5_copyRow, 3, none, 2, 9)]
def ts_ML3 : List ts_M := [(yX5_putBack, cX5_putBack, 2, (some .int), 1, 4),
  (yX5_orNone, cX5_orNone, 2, (some .int), 1, 4),
  (yX5_bits, cX5_bits, 3, (some .int), 1, 9),
  (yX5_isSet, cX5_isSet, 1, (some .boolean), 1, 9),
  (yX5_isWordNumber, cX5_isWordNumber, 1, (some .boolean), 1, 9),
  (yX5_isPlace, cX5_isPlace, 1, (some .boolean), 1, 9),
  (yX5_list, cX5_list, 4, (some .int), 3, 4),
  (yX5_listed, cX5_listed, 2, (some .int), 1, 4),
  (yX5_placeNow, cX5_placeNow, 1, (some .int), 0, 4),
  (yX5_sillAt, cX5_sillAt, 2, (some .int), 2, 9),
  (yX5_sillIs, cX5_sillIs, 3, (some .int), 2, 4),
  (yX5_isSill, cX5_isSill, 2, (some .boolean), 1, 4),
  (yX5_personAt, cX5_personAt, 2, (some .int), 2, 9),
  (yX5_personIs, cX5_personIs, 3, (some .int), 2, 4),
  (yX5_isPerson, cX5_isPerson, 2, (some .boolean), 1, 4),
  (yX5_isKind, cX5_isKind, 1, (some .boolean), 1, 9),
  (yX5_comes, cX5_comes, 4, (some .int), 1, 4),
  (yX5_sill, cX5_sill, 2, (some .int), 1, 4),
  (yX5_onePersonMore, cX5_onePersonMore, 3, (some .int), 1, 4),
  (yX5_person, cX5_person, 2, (some .int), 1, 4),
  (yX5_holds, cX5_holds, 2, (some .int), 1, 4),
  (yX5_keptSet, cX5_keptSet, 4, (some .int), 1, 4),
  (yX5_givesFrom, cX5_givesFrom, 4, (some .int), 1, 4),
  (yX5_gives, cX5_gives, 3, (some .int), 1, 4),
  (yX5_greatest, cX5_greatest, 2, (some .int), 1, 9),
  (yX5_least, cX5_least, 2, (some .int), 1, 9),
  (yX5_takesOf, cX5_takesOf, 5, (some .int), 2, 4),
  (yX5_told, cX5_told, 3, (some .int), 2, 4),
  (yX5_of, cX5_of, 3, (some .int), 2, 4),
  (yX5_word, cX5_word, 3, (some .int), 2, 4),
  (yX5_change, cX5_change, 5, (some .int), 3, 4),
  (yX5_lays, cX5_lays, 3, (some .int), 2, 4),
  (yX5_lay, cX5_lay, 3, (some .int), 2, 4),
  (yX5_ofPerson, cX5_ofPerson, 3, (some .int), 2, 4),
  (yX5_send, cX5_send, 5, (some .int), 3, 4),
  (yX5_takes, cX5_takes, 3, (some .int), 2, 4),
  (yX5_more, cX5_more, 4, none, 3, 4),
  (yX5_mayCross, cX5_mayCross, 4, (some .boolean), 2, 4),
  (yX5_goesIn, cX5_goesIn, 4, (some .int), 2, 4),
  (yX5_comesOut, cX5_comesOut, 6, (some .int), 2, 4)]
def ts_ML4 : List ts_M := [(yX5_crosses, cX5_crosses, 4, (some .int), 2, 4),
  (yX5_cross, cX5_cross, 3, (some .int), 2, 4),
  (yX5_day, cX5_day, 3, none, 0, 4),
  (yX5_daysGo, cX5_daysGo, 3, none, 1, 4),
  (yX5_go, cX5_go, 2, (some .int), 1, 4),
  (yX5_sumOf, cX5_sumOf, 4, (some .int), 1, 4),
  (yX5_heard, cX5_heard, 3, (some .int), 0, 4),
  (yX5_allKept, cX5_allKept, 3, (some .int), 0, 4),
  (yX5_inside, cX5_inside, 3, (some .int), 0, 4),
  (yX5_muteOnes, cX5_muteOnes, 3, (some .int), 0, 4),
  (yX5_now, cX5_now, 2, (some .int), 1, 4),
  (yX5_behind, cX5_behind, 3, (some .int), 2, 4),
  (yX5_ahead, cX5_ahead, 5, (some .int), 3, 4),
  (yX5_later, cX5_later, 4, (some .int), 3, 4),
  (yX5_hasWord, cX5_hasWord, 3, (some .boolean), 2, 4),
  (yX5_hears, cX5_hears, 4, (some .int), 2, 4),
  (yX5_daysTo, cX5_daysTo, 5, (some .int), 3, 4),
  (yX5_waste, cX5_waste, 2, (some .int), 1, 4),
  (yX5_mute, cX5_mute, 2, (some .int), 1, 4),
  (yX5_isThought, cX5_isThought, 1, (some .boolean), 1, 9),
  (yX5_leastLost, cX5_leastLost, 10, (some .int), 4, 4),
  (yX5_sillFor, cX5_sillFor, 3, (some .int), 2, 4),
  (yX5_kindFor, cX5_kindFor, 3, (some .int), 2, 4),
  (yX5_wordFor, cX5_wordFor, 9, (some .int), 3, 4),
  (yX5_staysAway, cX5_staysAway, 6, (some .boolean), 4, 4),
  (yX5_mend, cX5_mend, 6, (some .int), 3, 4),
  (yX5_seek, cX5_seek, 5, (some .int), 2, 4),
  (yX5_isSheet, cX5_isSheet, 1, (some .boolean), 1, 9),
  (yX5_lacks, cX5_lacks, 3, (some .int), 2, 4),
  (yX5_isSo, cX5_isSo, 6, (some .boolean), 2, 4),
  (yX5_fits, cX5_fits, 8, (some .int), 2, 4),
  (yX5_kinds, cX5_kinds, 8, (some .int), 2, 4),
  (yX5_drawn, cX5_drawn, 1, (some .int), 0, 4),
  (yX5_stroll, cX5_stroll, 5, (some .int), 1, 4),
  (yX5_odds, cX5_odds, 10, (some .long), 3, 4),
  (yX5_seed, cX5_seed, 2, (some .int), 1, 4),
  (yX5_feed, cX5_feed, 4, (some .int), 2, 4),
  (yX5_wipe, cX5_wipe, 2, (some .int), 0, 4),
  (yX5_byteAt, cX5_byteAt, 2, (some .int), 1, 4),
  (yX5_token, cX5_token, 2, none, 0, 4)]
def ts_ML5 : List ts_M := [(yX5_isWord, cX5_isWord, 4, (some .boolean), 1, 4),
  (yX5_must, cX5_must, 2, none, 1, 4),
  (yX5_number, cX5_number, 4, (some .int), 2, 4),
  (yX5_takesWord, cX5_takesWord, 3, (some .boolean), 1, 4),
  (yX5_readSill, cX5_readSill, 4, none, 2, 4),
  (yX5_readPerson, cX5_readPerson, 2, none, 1, 4),
  (yX5_readItem, cX5_readItem, 4, none, 0, 4),
  (yX5_isToldSo, cX5_isToldSo, 6, none, 1, 4),
  (yX5_text, cX5_text, 2, (some .int), 0, 4),
  (yX5_isSpot, cX5_isSpot, 1, (some .boolean), 1, 9),
  (yX5_hold, cX5_hold, 3, (some .int), 2, 4),
  (yX5_above, cX5_above, 1, (some .int), 1, 9),
  (yX5_isUnder, cX5_isUnder, 3, (some .boolean), 2, 9),
  (yX5_as, cX5_as, 4, (some .int), 2, 4),
  (yX5_cutTo, cX5_cutTo, 2, (some .int), 2, 9),
  (yX5_sheet, cX5_sheet, 5, (some .int), 3, 4),
  (yX5_write, cX5_write, 4, (some .int), 3, 4),
  (yX5_copy, cX5_copy, 7, (some .int), 5, 4),
  (yX5_load, cX5_load, 3, (some .int), 1, 4),
  (yX5_judge, cX5_judge, 4, (some .int), 1, 4),
  (yX5_image, cX5_image, 1, (some .int), 0, 4),
  (yX5_undo, cX5_undo, 1, (some .int), 0, 4),
  (yX5_tear, cX5_tear, 2, (some .int), 0, 4),
  (yX5_count, cX5_count, 4, (some .int), 1, 4),
  (yX5_status, cX5_status, 2, (some .int), 1, 4)]
def ts_ML : List (List ts_M) := [ts_ML0, ts_ML1, ts_ML2, ts_ML3, ts_ML4, ts_ML5]
def ts_mi (z : Nat) : ts_M := match ts_ML[z / 40]? with
  | some L => L.getD (z % 40) (yX4_tell, cX4_tell, 0, none, 0, 0)
  | none => (yX4_tell, cX4_tell, 0, none, 0, 0)
def ts_mwb (mi : ts_M) (q1 q2 q3 q4 : Nat) : Bool := (ts_wx q1 (.code mi.1 mi.2.1 mi.2.2.1 mi.2.2.2.1) && ts_wx q2 (.initialized mi.1.cls)) && ((decide (mi.1.cls ≠ "java/lang/invoke/MethodHandle") && (decide (mi.1.cls ≠ "java/lang/invoke/VarHandle") && decide ((parseMethodDescriptor mi.1.desc).map (fun d => d.parameters.length) = some mi.2.2.2.2.1))) && (decide (mi.2.2.1 ≤ 20) && cond (mi.2.2.2.2.2 == 9) (ts_wx q3 (.static mi.1)) (decide (mi.2.2.2.2.2 < 5 ∨ mi.2.2.2.2.2 = 8) && (decide (ts_cn mi.2.2.2.2.2 = mi.1.cls) && (ts_wx q3 (.instanceMethod mi.1) && ts_wx q4 (.selects mi.1.cls mi.1 mi.1))))))
theorem ts_mw_of {mi : ts_M} {q1 q2 q3 q4 : Nat} (h : ts_mwb mi q1 q2 q3 q4 = true) : ts_mw mi := by
  unfold ts_mwb at h
  rw [Bool.and_eq_true, Bool.and_eq_true, Bool.and_eq_true, Bool.and_eq_true, Bool.and_eq_true, Bool.and_eq_true] at h
  obtain ⟨⟨h1, h2⟩, ⟨h3, h4, h5⟩, h6, h7⟩ := h
  refine ⟨⟨ts_wx_in h1, ts_wx_in h2⟩, ⟨of_decide_eq_true h3, of_decide_eq_true h4, of_decide_eq_true h5⟩, of_decide_eq_true h6, ?_⟩
  cases hk : (mi.2.2.2.2.2 == 9) with
  | true =>
    rw [hk] at h7
    exact Or.inl ⟨eq_of_beq hk, ts_wx_in h7⟩
  | false =>
    rw [hk] at h7
    have h7 : (decide (mi.2.2.2.2.2 < 5 ∨ mi.2.2.2.2.2 = 8) && (decide (ts_cn mi.2.2.2.2.2 = mi.1.cls) && (ts_wx q3 (.instanceMethod mi.1) && ts_wx q4 (.selects mi.1.cls mi.1 mi.1)))) = true := h7
    rw [Bool.and_eq_true, Bool.and_eq_true, Bool.and_eq_true] at h7
    exact Or.inr ⟨of_decide_eq_true h7.1, of_decide_eq_true h7.2.1, ts_wx_in h7.2.2.1, ts_wx_in h7.2.2.2⟩
theorem mw_0 : ts_mw (ts_mi 0) := ts_mw_of (q1 := 3142) (q2 := 1006) (q3 := 3141) (q4 := 0) (by decide +kernel)
theorem mw_1 : ts_mw (ts_mi 1) := ts_mw_of (q1 := 3139) (q2 := 1006) (q3 := 3138) (q4 := 0) (by decide +kernel)
theorem mw_2 : ts_mw (ts_mi 2) := ts_mw_of (q1 := 3107) (q2 := 1006) (q3 := 3106) (q4 := 0) (by decide +kernel)
theorem mw_3 : ts_mw (ts_mi 3) := ts_mw_of (q1 := 3041) (q2 := 1010) (q3 := 3039) (q4 := 3040) (by decide +kernel)
theorem mw_4 : ts_mw (ts_mi 4) := ts_mw_of (q1 := 3051) (q2 := 1010) (q3 := 3049) (q4 := 3050) (by decide +kernel)
theorem mw_5 : ts_mw (ts_mi 5) := ts_mw_of (q1 := 3037) (q2 := 1003) (q3 := 3035) (q4 := 3036) (by decide +kernel)
theorem mw_6 : ts_mw (ts_mi 6) := ts_mw_of (q1 := 3104) (q2 := 1006) (q3 := 3103) (q4 := 0) (by decide +kernel)
theorem mw_7 : ts_mw (ts_mi 7) := ts_mw_of (q1 := 1211) (q2 := 1006) (q3 := 1210) (q4 := 0) (by decide +kernel)
theorem mw_8 : ts_mw (ts_mi 8) := ts_mw_of (q1 := 2033) (q2 := 1006) (q3 := 2032) (q4 := 0) (by decide +kernel)
theorem mw_9 : ts_mw (ts_mi 9) := ts_mw_of (q1 := 2036) (q2 := 1006) (q3 := 2035) (q4 := 0) (by decide +kernel)
theorem mw_10 : ts_mw (ts_mi 10) := ts_mw_of (q1 := 2030) (q2 := 1006) (q3 := 2029) (q4 := 0) (by decide +kernel)
theorem mw_11 : ts_mw (ts_mi 11) := ts_mw_of (q1 := 1222) (q2 := 1006) (q3 := 1221) (q4 := 0) (by decide +kernel)
theorem mw_12 : ts_mw (ts_mi 12) := ts_mw_of (q1 := 2134) (q2 := 1002) (q3 := 2132) (q4 := 2133) (by decide +kernel)
theorem mw_13 : ts_mw (ts_mi 13) := ts_mw_of (q1 := 1167) (q2 := 1001) (q3 := 1166) (q4 := 0) (by decide +kernel)
theorem mw_14 : ts_mw (ts_mi 14) := ts_mw_of (q1 := 1203) (q2 := 1002) (q3 := 1201) (q4 := 1202) (by decide +kernel)
theorem mw_15 : ts_mw (ts_mi 15) := ts_mw_of (q1 := 2014) (q2 := 1002) (q3 := 2012) (q4 := 2013) (by decide +kernel)
theorem mw_16 : ts_mw (ts_mi 16) := ts_mw_of (q1 := 2077) (q2 := 1002) (q3 := 2075) (q4 := 2076) (by decide +kernel)
theorem mw_17 : ts_mw (ts_mi 17) := ts_mw_of (q1 := 1184) (q2 := 1002) (q3 := 1182) (q4 := 1183) (by decide +kernel)
theorem mw_18 : ts_mw (ts_mi 18) := ts_mw_of (q1 := 1195) (q2 := 1002) (q3 := 1193) (q4 := 1194) (by decide +kernel)
theorem mw_19 : ts_mw (ts_mi 19) := ts_mw_of (q1 := 1226) (q2 := 1002) (q3 := 1224) (q4 := 1225) (by decide +kernel)
theorem mw_20 : ts_mw (ts_mi 20) := ts_mw_of (q1 := 1215) (q2 := 1002) (q3 := 1213) (q4 := 1214) (by decide +kernel)
theorem mw_21 : ts_mw (ts_mi 21) := ts_mw_of (q1 := 2006) (q2 := 1002) (q3 := 2004) (q4 := 2005) (by decide +kernel)
theorem mw_22 : ts_mw (ts_mi 22) := ts_mw_of (q1 := 2073) (q2 := 1002) (q3 := 2072) (q4 := 5) (by decide +kernel)
theorem mw_23 : ts_mw (ts_mi 23) := ts_mw_of (q1 := 1219) (q2 := 1002) (q3 := 1218) (q4 := 1) (by decide +kernel)
theorem mw_24 : ts_mw (ts_mi 24) := ts_mw_of (q1 := 1208) (q2 := 1002) (q3 := 1206) (q4 := 1207) (by decide +kernel)
theorem mw_25 : ts_mw (ts_mi 25) := ts_mw_of (q1 := 2018) (q2 := 1002) (q3 := 2016) (q4 := 2017) (by decide +kernel)
theorem mw_26 : ts_mw (ts_mi 26) := ts_mw_of (q1 := 2044) (q2 := 1002) (q3 := 2042) (q4 := 2043) (by decide +kernel)
theorem mw_27 : ts_mw (ts_mi 27) := ts_mw_of (q1 := 2065) (q2 := 1007) (q3 := 2064) (q4 := 0) (by decide +kernel)
theorem mw_28 : ts_mw (ts_mi 28) := ts_mw_of (q1 := 2061) (q2 := 1002) (q3 := 2060) (q4 := 3) (by decide +kernel)
theorem mw_29 : ts_mw (ts_mi 29) := ts_mw_of (q1 := 2055) (q2 := 1002) (q3 := 2054) (q4 := 2) (by decide +kernel)
theorem mw_30 : ts_mw (ts_mi 30) := ts_mw_of (q1 := 2069) (q2 := 1002) (q3 := 2068) (q4 := 4) (by decide +kernel)
theorem mw_31 : ts_mw (ts_mi 31) := ts_mw_of (q1 := 2048) (q2 := 1002) (q3 := 2046) (q4 := 2047) (by decide +kernel)
theorem mw_32 : ts_mw (ts_mi 32) := ts_mw_of (q1 := 2093) (q2 := 1007) (q3 := 2092) (q4 := 0) (by decide +kernel)
theorem mw_33 : ts_mw (ts_mi 33) := ts_mw_of (q1 := 2090) (q2 := 1002) (q3 := 2088) (q4 := 2089) (by decide +kernel)
theorem mw_34 : ts_mw (ts_mi 34) := ts_mw_of (q1 := 2086) (q2 := 1002) (q3 := 2084) (q4 := 2085) (by decide +kernel)
theorem mw_35 : ts_mw (ts_mi 35) := ts_mw_of (q1 := 2222) (q2 := 1002) (q3 := 2220) (q4 := 2221) (by decide +kernel)
theorem mw_36 : ts_mw (ts_mi 36) := ts_mw_of (q1 := 2102) (q2 := 1002) (q3 := 2100) (q4 := 2101) (by decide +kernel)
theorem mw_37 : ts_mw (ts_mi 37) := ts_mw_of (q1 := 2106) (q2 := 1002) (q3 := 2104) (q4 := 2105) (by decide +kernel)
theorem mw_38 : ts_mw (ts_mi 38) := ts_mw_of (q1 := 2110) (q2 := 1002) (q3 := 2108) (q4 := 2109) (by decide +kernel)
theorem mw_39 : ts_mw (ts_mi 39) := ts_mw_of (q1 := 2114) (q2 := 1002) (q3 := 2112) (q4 := 2113) (by decide +kernel)
theorem mw_40 : ts_mw (ts_mi 40) := ts_mw_of (q1 := 2118) (q2 := 1002) (q3 := 2116) (q4 := 2117) (by decide +kernel)
theorem mw_41 : ts_mw (ts_mi 41) := ts_mw_of (q1 := 2122) (q2 := 1002) (q3 := 2120) (q4 := 2121) (by decide +kernel)
theorem mw_42 : ts_mw (ts_mi 42) := ts_mw_of (q1 := 3204) (q2 := 1002) (q3 := 3202) (q4 := 3203) (by decide +kernel)
theorem mw_43 : ts_mw (ts_mi 43) := ts_mw_of (q1 := 2193) (q2 := 1004) (q3 := 2191) (q4 := 2192) (by decide +kernel)
theorem mw_44 : ts_mw (ts_mi 44) := ts_mw_of (q1 := 3150) (q2 := 1004) (q3 := 3148) (q4 := 3149) (by decide +kernel)
theorem mw_45 : ts_mw (ts_mi 45) := ts_mw_of (q1 := 2206) (q2 := 1004) (q3 := 2204) (q4 := 2205) (by decide +kernel)
theorem mw_46 : ts_mw (ts_mi 46) := ts_mw_of (q1 := 3161) (q2 := 1004) (q3 := 3160) (q4 := 0) (by decide +kernel)
theorem mw_47 : ts_mw (ts_mi 47) := ts_mw_of (q1 := 3158) (q2 := 1004) (q3 := 3156) (q4 := 3157) (by decide +kernel)
theorem mw_48 : ts_mw (ts_mi 48) := ts_mw_of (q1 := 3169) (q2 := 1004) (q3 := 3167) (q4 := 3168) (by decide +kernel)
theorem mw_49 : ts_mw (ts_mi 49) := ts_mw_of (q1 := 3173) (q2 := 1004) (q3 := 3171) (q4 := 3172) (by decide +kernel)
theorem mw_50 : ts_mw (ts_mi 50) := ts_mw_of (q1 := 2202) (q2 := 1004) (q3 := 2200) (q4 := 2201) (by decide +kernel)
theorem mw_51 : ts_mw (ts_mi 51) := ts_mw_of (q1 := 3005) (q2 := 1003) (q3 := 3003) (q4 := 3004) (by decide +kernel)
theorem mw_52 : ts_mw (ts_mi 52) := ts_mw_of (q1 := 3024) (q2 := 1003) (q3 := 3023) (q4 := 0) (by decide +kernel)
theorem mw_53 : ts_mw (ts_mi 53) := ts_mw_of (q1 := 3027) (q2 := 1003) (q3 := 3026) (q4 := 0) (by decide +kernel)
theorem mw_54 : ts_mw (ts_mi 54) := ts_mw_of (q1 := 3021) (q2 := 1003) (q3 := 3020) (q4 := 10) (by decide +kernel)
theorem mw_55 : ts_mw (ts_mi 55) := ts_mw_of (q1 := 3095) (q2 := 1003) (q3 := 3094) (q4 := 13) (by decide +kernel)
theorem mw_56 : ts_mw (ts_mi 56) := ts_mw_of (q1 := 3089) (q2 := 1003) (q3 := 3088) (q4 := 12) (by decide +kernel)
theorem mw_57 : ts_mw (ts_mi 57) := ts_mw_of (q1 := 3101) (q2 := 1003) (q3 := 3100) (q4 := 14) (by decide +kernel)
theorem mw_58 : ts_mw (ts_mi 58) := ts_mw_of (q1 := 3125) (q2 := 1003) (q3 := 3124) (q4 := 16) (by decide +kernel)
theorem mw_59 : ts_mw (ts_mi 59) := ts_mw_of (q1 := 3119) (q2 := 1003) (q3 := 3118) (q4 := 15) (by decide +kernel)
theorem mw_60 : ts_mw (ts_mi 60) := ts_mw_of (q1 := 3032) (q2 := 1003) (q3 := 3031) (q4 := 11) (by decide +kernel)
theorem mw_61 : ts_mw (ts_mi 61) := ts_mw_of (q1 := 3017) (q2 := 1003) (q3 := 3015) (q4 := 3016) (by decide +kernel)
theorem mw_62 : ts_mw (ts_mi 62) := ts_mw_of (q1 := 1171) (q2 := 1001) (q3 := 1170) (q4 := 0) (by decide +kernel)
theorem mw_63 : ts_mw (ts_mi 63) := ts_mw_of (q1 := 1164) (q2 := 1001) (q3 := 1162) (q4 := 1163) (by decide +kernel)
theorem mw_64 : ts_mw (ts_mi 64) := ts_mw_of (q1 := 1176) (q2 := 1001) (q3 := 1174) (q4 := 1175) (by decide +kernel)
theorem mw_65 : ts_mw (ts_mi 65) := ts_mw_of (q1 := 1180) (q2 := 1001) (q3 := 1178) (q4 := 1179) (by decide +kernel)
theorem mw_66 : ts_mw (ts_mi 66) := ts_mw_of (q1 := 1191) (q2 := 1001) (q3 := 1190) (q4 := 0) (by decide +kernel)
theorem mw_67 : ts_mw (ts_mi 67) := ts_mw_of (q1 := 1188) (q2 := 1001) (q3 := 1186) (q4 := 1187) (by decide +kernel)
theorem mw_68 : ts_mw (ts_mi 68) := ts_mw_of (q1 := 1199) (q2 := 1001) (q3 := 1197) (q4 := 1198) (by decide +kernel)
theorem mw_69 : ts_mw (ts_mi 69) := ts_mw_of (q1 := 1230) (q2 := 1001) (q3 := 1228) (q4 := 1229) (by decide +kernel)
theorem mw_70 : ts_mw (ts_mi 70) := ts_mw_of (q1 := 1238) (q2 := 1001) (q3 := 1237) (q4 := 0) (by decide +kernel)
theorem mw_71 : ts_mw (ts_mi 71) := ts_mw_of (q1 := 1235) (q2 := 1001) (q3 := 1233) (q4 := 1234) (by decide +kernel)
theorem mw_72 : ts_mw (ts_mi 72) := ts_mw_of (q1 := 2002) (q2 := 1001) (q3 := 2000) (q4 := 2001) (by decide +kernel)
theorem mw_73 : ts_mw (ts_mi 73) := ts_mw_of (q1 := 2010) (q2 := 1001) (q3 := 2008) (q4 := 2009) (by decide +kernel)
theorem mw_74 : ts_mw (ts_mi 74) := ts_mw_of (q1 := 2022) (q2 := 1001) (q3 := 2020) (q4 := 2021) (by decide +kernel)
theorem mw_75 : ts_mw (ts_mi 75) := ts_mw_of (q1 := 2026) (q2 := 1001) (q3 := 2024) (q4 := 2025) (by decide +kernel)
theorem mw_76 : ts_mw (ts_mi 76) := ts_mw_of (q1 := 2040) (q2 := 1001) (q3 := 2038) (q4 := 2039) (by decide +kernel)
theorem mw_77 : ts_mw (ts_mi 77) := ts_mw_of (q1 := 2081) (q2 := 1001) (q3 := 2079) (q4 := 2080) (by decide +kernel)
theorem mw_78 : ts_mw (ts_mi 78) := ts_mw_of (q1 := 2098) (q2 := 1001) (q3 := 2096) (q4 := 2097) (by decide +kernel)
theorem mw_79 : ts_mw (ts_mi 79) := ts_mw_of (q1 := 2130) (q2 := 1001) (q3 := 2129) (q4 := 6) (by decide +kernel)
theorem mw_80 : ts_mw (ts_mi 80) := ts_mw_of (q1 := 2126) (q2 := 1001) (q3 := 2124) (q4 := 2125) (by decide +kernel)
theorem mw_81 : ts_mw (ts_mi 81) := ts_mw_of (q1 := 2141) (q2 := 1001) (q3 := 2139) (q4 := 2140) (by decide +kernel)
theorem mw_82 : ts_mw (ts_mi 82) := ts_mw_of (q1 := 2145) (q2 := 1001) (q3 := 2143) (q4 := 2144) (by decide +kernel)
theorem mw_83 : ts_mw (ts_mi 83) := ts_mw_of (q1 := 2150) (q2 := 1001) (q3 := 2148) (q4 := 2149) (by decide +kernel)
theorem mw_84 : ts_mw (ts_mi 84) := ts_mw_of (q1 := 2154) (q2 := 1001) (q3 := 2152) (q4 := 2153) (by decide +kernel)
theorem mw_85 : ts_mw (ts_mi 85) := ts_mw_of (q1 := 2158) (q2 := 1001) (q3 := 2156) (q4 := 2157) (by decide +kernel)
theorem mw_86 : ts_mw (ts_mi 86) := ts_mw_of (q1 := 2163) (q2 := 1001) (q3 := 2161) (q4 := 2162) (by decide +kernel)
theorem mw_87 : ts_mw (ts_mi 87) := ts_mw_of (q1 := 2167) (q2 := 1001) (q3 := 2165) (q4 := 2166) (by decide +kernel)
theorem mw_88 : ts_mw (ts_mi 88) := ts_mw_of (q1 := 2174) (q2 := 1009) (q3 := 2173) (q4 := 0) (by decide +kernel)
theorem mw_89 : ts_mw (ts_mi 89) := ts_mw_of (q1 := 2181) (q2 := 1001) (q3 := 2180) (q4 := 7) (by decide +kernel)
theorem mw_90 : ts_mw (ts_mi 90) := ts_mw_of (q1 := 2171) (q2 := 1001) (q3 := 2169) (q4 := 2170) (by decide +kernel)
theorem mw_91 : ts_mw (ts_mi 91) := ts_mw_of (q1 := 2185) (q2 := 1001) (q3 := 2183) (q4 := 2184) (by decide +kernel)
theorem mw_92 : ts_mw (ts_mi 92) := ts_mw_of (q1 := 2198) (q2 := 1001) (q3 := 2197) (q4 := 8) (by decide +kernel)
theorem mw_93 : ts_mw (ts_mi 93) := ts_mw_of (q1 := 2189) (q2 := 1001) (q3 := 2187) (q4 := 2188) (by decide +kernel)
theorem mw_94 : ts_mw (ts_mi 94) := ts_mw_of (q1 := 2214) (q2 := 1001) (q3 := 2213) (q4 := 9) (by decide +kernel)
theorem mw_95 : ts_mw (ts_mi 95) := ts_mw_of (q1 := 2210) (q2 := 1001) (q3 := 2208) (q4 := 2209) (by decide +kernel)
theorem mw_96 : ts_mw (ts_mi 96) := ts_mw_of (q1 := 2218) (q2 := 1001) (q3 := 2216) (q4 := 2217) (by decide +kernel)
theorem mw_97 : ts_mw (ts_mi 97) := ts_mw_of (q1 := 2230) (q2 := 1001) (q3 := 2229) (q4 := 0) (by decide +kernel)
theorem mw_98 : ts_mw (ts_mi 98) := ts_mw_of (q1 := 2233) (q2 := 1001) (q3 := 2232) (q4 := 0) (by decide +kernel)
theorem mw_99 : ts_mw (ts_mi 99) := ts_mw_of (q1 := 2227) (q2 := 1001) (q3 := 2225) (q4 := 2226) (by decide +kernel)
theorem mw_100 : ts_mw (ts_mi 100) := ts_mw_of (q1 := 2237) (q2 := 1001) (q3 := 2235) (q4 := 2236) (by decide +kernel)
theorem mw_101 : ts_mw (ts_mi 101) := ts_mw_of (q1 := 3001) (q2 := 1001) (q3 := 2239) (q4 := 3000) (by decide +kernel)
theorem mw_102 : ts_mw (ts_mi 102) := ts_mw_of (q1 := 3009) (q2 := 1001) (q3 := 3007) (q4 := 3008) (by decide +kernel)
theorem mw_103 : ts_mw (ts_mi 103) := ts_mw_of (q1 := 3013) (q2 := 1001) (q3 := 3011) (q4 := 3012) (by decide +kernel)
theorem mw_104 : ts_mw (ts_mi 104) := ts_mw_of (q1 := 3132) (q2 := 1001) (q3 := 3130) (q4 := 3131) (by decide +kernel)
theorem mw_105 : ts_mw (ts_mi 105) := ts_mw_of (q1 := 3136) (q2 := 1001) (q3 := 3134) (q4 := 3135) (by decide +kernel)
theorem mw_106 : ts_mw (ts_mi 106) := ts_mw_of (q1 := 3146) (q2 := 1001) (q3 := 3144) (q4 := 3145) (by decide +kernel)
theorem mw_107 : ts_mw (ts_mi 107) := ts_mw_of (q1 := 3154) (q2 := 1001) (q3 := 3152) (q4 := 3153) (by decide +kernel)
theorem mw_108 : ts_mw (ts_mi 108) := ts_mw_of (q1 := 3165) (q2 := 1001) (q3 := 3163) (q4 := 3164) (by decide +kernel)
theorem mw_109 : ts_mw (ts_mi 109) := ts_mw_of (q1 := 3178) (q2 := 1001) (q3 := 3176) (q4 := 3177) (by decide +kernel)
theorem mw_110 : ts_mw (ts_mi 110) := ts_mw_of (q1 := 3184) (q2 := 1001) (q3 := 3182) (q4 := 3183) (by decide +kernel)
theorem mw_111 : ts_mw (ts_mi 111) := ts_mw_of (q1 := 3188) (q2 := 1001) (q3 := 3186) (q4 := 3187) (by decide +kernel)
theorem mw_112 : ts_mw (ts_mi 112) := ts_mw_of (q1 := 3192) (q2 := 1001) (q3 := 3190) (q4 := 3191) (by decide +kernel)
theorem mw_113 : ts_mw (ts_mi 113) := ts_mw_of (q1 := 3196) (q2 := 1001) (q3 := 3194) (q4 := 3195) (by decide +kernel)
theorem mw_114 : ts_mw (ts_mi 114) := ts_mw_of (q1 := 3200) (q2 := 1001) (q3 := 3198) (q4 := 3199) (by decide +kernel)
theorem mw_115 : ts_mw (ts_mi 115) := ts_mw_of (q1 := 3208) (q2 := 1001) (q3 := 3206) (q4 := 3207) (by decide +kernel)
theorem mw_116 : ts_mw (ts_mi 116) := ts_mw_of (q1 := 4066) (q2 := 1005) (q3 := 4065) (q4 := 18) (by decide +kernel)
theorem mw_117 : ts_mw (ts_mi 117) := ts_mw_of (q1 := 4057) (q2 := 1005) (q3 := 4056) (q4 := 0) (by decide +kernel)
theorem mw_118 : ts_mw (ts_mi 118) := ts_mw_of (q1 := 4061) (q2 := 1005) (q3 := 4060) (q4 := 17) (by decide +kernel)
theorem mw_119 : ts_mw (ts_mi 119) := ts_mw_of (q1 := 5019) (q2 := 1005) (q3 := 5018) (q4 := 0) (by decide +kernel)
theorem mw_120 : ts_mw (ts_mi 120) := ts_mw_of (q1 := 5023) (q2 := 1005) (q3 := 5022) (q4 := 46) (by decide +kernel)
theorem mw_121 : ts_mw (ts_mi 121) := ts_mw_of (q1 := 4185) (q2 := 1005) (q3 := 4184) (q4 := 32) (by decide +kernel)
theorem mw_122 : ts_mw (ts_mi 122) := ts_mw_of (q1 := 5078) (q2 := 1005) (q3 := 5077) (q4 := 0) (by decide +kernel)
theorem mw_123 : ts_mw (ts_mi 123) := ts_mw_of (q1 := 4092) (q2 := 1005) (q3 := 4091) (q4 := 0) (by decide +kernel)
theorem mw_124 : ts_mw (ts_mi 124) := ts_mw_of (q1 := 4147) (q2 := 1005) (q3 := 4146) (q4 := 0) (by decide +kernel)
theorem mw_125 : ts_mw (ts_mi 125) := ts_mw_of (q1 := 4054) (q2 := 1005) (q3 := 4053) (q4 := 0) (by decide +kernel)
theorem mw_126 : ts_mw (ts_mi 126) := ts_mw_of (q1 := 4051) (q2 := 1005) (q3 := 4049) (q4 := 4050) (by decide +kernel)
theorem mw_127 : ts_mw (ts_mi 127) := ts_mw_of (q1 := 4070) (q2 := 1005) (q3 := 4068) (q4 := 4069) (by decide +kernel)
theorem mw_128 : ts_mw (ts_mi 128) := ts_mw_of (q1 := 4228) (q2 := 1005) (q3 := 4227) (q4 := 40) (by decide +kernel)
theorem mw_129 : ts_mw (ts_mi 129) := ts_mw_of (q1 := 4085) (q2 := 1005) (q3 := 4084) (q4 := 0) (by decide +kernel)
theorem mw_130 : ts_mw (ts_mi 130) := ts_mw_of (q1 := 4115) (q2 := 1005) (q3 := 4114) (q4 := 23) (by decide +kernel)
theorem mw_131 : ts_mw (ts_mi 131) := ts_mw_of (q1 := 4107) (q2 := 1005) (q3 := 4106) (q4 := 21) (by decide +kernel)
theorem mw_132 : ts_mw (ts_mi 132) := ts_mw_of (q1 := 4099) (q2 := 1005) (q3 := 4098) (q4 := 0) (by decide +kernel)
theorem mw_133 : ts_mw (ts_mi 133) := ts_mw_of (q1 := 4163) (q2 := 1005) (q3 := 4162) (q4 := 30) (by decide +kernel)
theorem mw_134 : ts_mw (ts_mi 134) := ts_mw_of (q1 := 4159) (q2 := 1005) (q3 := 4158) (q4 := 29) (by decide +kernel)
theorem mw_135 : ts_mw (ts_mi 135) := ts_mw_of (q1 := 4077) (q2 := 1005) (q3 := 4076) (q4 := 0) (by decide +kernel)
theorem mw_136 : ts_mw (ts_mi 136) := ts_mw_of (q1 := 4082) (q2 := 1005) (q3 := 4081) (q4 := 19) (by decide +kernel)
theorem mw_137 : ts_mw (ts_mi 137) := ts_mw_of (q1 := 4074) (q2 := 1005) (q3 := 4072) (q4 := 4073) (by decide +kernel)
theorem mw_138 : ts_mw (ts_mi 138) := ts_mw_of (q1 := 4096) (q2 := 1005) (q3 := 4095) (q4 := 20) (by decide +kernel)
theorem mw_139 : ts_mw (ts_mi 139) := ts_mw_of (q1 := 4089) (q2 := 1005) (q3 := 4087) (q4 := 4088) (by decide +kernel)
theorem mw_140 : ts_mw (ts_mi 140) := ts_mw_of (q1 := 4119) (q2 := 1005) (q3 := 4118) (q4 := 24) (by decide +kernel)
theorem mw_141 : ts_mw (ts_mi 141) := ts_mw_of (q1 := 4123) (q2 := 1005) (q3 := 4122) (q4 := 25) (by decide +kernel)
theorem mw_142 : ts_mw (ts_mi 142) := ts_mw_of (q1 := 4131) (q2 := 1005) (q3 := 4130) (q4 := 27) (by decide +kernel)
theorem mw_143 : ts_mw (ts_mi 143) := ts_mw_of (q1 := 4127) (q2 := 1005) (q3 := 4126) (q4 := 26) (by decide +kernel)
theorem mw_144 : ts_mw (ts_mi 144) := ts_mw_of (q1 := 4178) (q2 := 1005) (q3 := 4177) (q4 := 0) (by decide +kernel)
theorem mw_145 : ts_mw (ts_mi 145) := ts_mw_of (q1 := 4181) (q2 := 1005) (q3 := 4180) (q4 := 0) (by decide +kernel)
theorem mw_146 : ts_mw (ts_mi 146) := ts_mw_of (q1 := 4175) (q2 := 1005) (q3 := 4174) (q4 := 31) (by decide +kernel)
theorem mw_147 : ts_mw (ts_mi 147) := ts_mw_of (q1 := 4111) (q2 := 1005) (q3 := 4110) (q4 := 22) (by decide +kernel)
theorem mw_148 : ts_mw (ts_mi 148) := ts_mw_of (q1 := 4103) (q2 := 1005) (q3 := 4101) (q4 := 4102) (by decide +kernel)
theorem mw_149 : ts_mw (ts_mi 149) := ts_mw_of (q1 := 4135) (q2 := 1005) (q3 := 4133) (q4 := 4134) (by decide +kernel)
theorem mw_150 : ts_mw (ts_mi 150) := ts_mw_of (q1 := 4140) (q2 := 1005) (q3 := 4138) (q4 := 4139) (by decide +kernel)
theorem mw_151 : ts_mw (ts_mi 151) := ts_mw_of (q1 := 4151) (q2 := 1005) (q3 := 4150) (q4 := 28) (by decide +kernel)
theorem mw_152 : ts_mw (ts_mi 152) := ts_mw_of (q1 := 4144) (q2 := 1005) (q3 := 4142) (q4 := 4143) (by decide +kernel)
theorem mw_153 : ts_mw (ts_mi 153) := ts_mw_of (q1 := 4155) (q2 := 1005) (q3 := 4153) (q4 := 4154) (by decide +kernel)
theorem mw_154 : ts_mw (ts_mi 154) := ts_mw_of (q1 := 4167) (q2 := 1005) (q3 := 4165) (q4 := 4166) (by decide +kernel)
theorem mw_155 : ts_mw (ts_mi 155) := ts_mw_of (q1 := 4171) (q2 := 1005) (q3 := 4169) (q4 := 4170) (by decide +kernel)
theorem mw_156 : ts_mw (ts_mi 156) := ts_mw_of (q1 := 4206) (q2 := 1005) (q3 := 4205) (q4 := 36) (by decide +kernel)
theorem mw_157 : ts_mw (ts_mi 157) := ts_mw_of (q1 := 4193) (q2 := 1005) (q3 := 4192) (q4 := 33) (by decide +kernel)
theorem mw_158 : ts_mw (ts_mi 158) := ts_mw_of (q1 := 4201) (q2 := 1005) (q3 := 4200) (q4 := 35) (by decide +kernel)
theorem mw_159 : ts_mw (ts_mi 159) := ts_mw_of (q1 := 4211) (q2 := 1005) (q3 := 4210) (q4 := 37) (by decide +kernel)
theorem mw_160 : ts_mw (ts_mi 160) := ts_mw_of (q1 := 4197) (q2 := 1005) (q3 := 4196) (q4 := 34) (by decide +kernel)
theorem mw_161 : ts_mw (ts_mi 161) := ts_mw_of (q1 := 4189) (q2 := 1005) (q3 := 4187) (q4 := 4188) (by decide +kernel)
theorem mw_162 : ts_mw (ts_mi 162) := ts_mw_of (q1 := 4224) (q2 := 1005) (q3 := 4223) (q4 := 39) (by decide +kernel)
theorem mw_163 : ts_mw (ts_mi 163) := ts_mw_of (q1 := 4220) (q2 := 1005) (q3 := 4219) (q4 := 38) (by decide +kernel)
theorem mw_164 : ts_mw (ts_mi 164) := ts_mw_of (q1 := 4216) (q2 := 1005) (q3 := 4214) (q4 := 4215) (by decide +kernel)
theorem mw_165 : ts_mw (ts_mi 165) := ts_mw_of (q1 := 5012) (q2 := 1005) (q3 := 5011) (q4 := 45) (by decide +kernel)
theorem mw_166 : ts_mw (ts_mi 166) := ts_mw_of (q1 := 4236) (q2 := 1005) (q3 := 4235) (q4 := 41) (by decide +kernel)
theorem mw_167 : ts_mw (ts_mi 167) := ts_mw_of (q1 := 5000) (q2 := 1005) (q3 := 4239) (q4 := 42) (by decide +kernel)
theorem mw_168 : ts_mw (ts_mi 168) := ts_mw_of (q1 := 5004) (q2 := 1005) (q3 := 5003) (q4 := 43) (by decide +kernel)
theorem mw_169 : ts_mw (ts_mi 169) := ts_mw_of (q1 := 5008) (q2 := 1005) (q3 := 5007) (q4 := 44) (by decide +kernel)
theorem mw_170 : ts_mw (ts_mi 170) := ts_mw_of (q1 := 4232) (q2 := 1005) (q3 := 4230) (q4 := 4231) (by decide +kernel)
theorem mw_171 : ts_mw (ts_mi 171) := ts_mw_of (q1 := 5031) (q2 := 1005) (q3 := 5030) (q4 := 47) (by decide +kernel)
theorem mw_172 : ts_mw (ts_mi 172) := ts_mw_of (q1 := 5016) (q2 := 1005) (q3 := 5014) (q4 := 5015) (by decide +kernel)
theorem mw_173 : ts_mw (ts_mi 173) := ts_mw_of (q1 := 5027) (q2 := 1005) (q3 := 5025) (q4 := 5026) (by decide +kernel)
theorem mw_174 : ts_mw (ts_mi 174) := ts_mw_of (q1 := 5039) (q2 := 1005) (q3 := 5038) (q4 := 48) (by decide +kernel)
theorem mw_175 : ts_mw (ts_mi 175) := ts_mw_of (q1 := 5035) (q2 := 1005) (q3 := 5033) (q4 := 5034) (by decide +kernel)
theorem mw_176 : ts_mw (ts_mi 176) := ts_mw_of (q1 := 5047) (q2 := 1005) (q3 := 5046) (q4 := 49) (by decide +kernel)
theorem mw_177 : ts_mw (ts_mi 177) := ts_mw_of (q1 := 5043) (q2 := 1005) (q3 := 5041) (q4 := 5042) (by decide +kernel)
theorem mw_178 : ts_mw (ts_mi 178) := ts_mw_of (q1 := 5051) (q2 := 1005) (q3 := 5049) (q4 := 5050) (by decide +kernel)
theorem mw_179 : ts_mw (ts_mi 179) := ts_mw_of (q1 := 5058) (q2 := 1005) (q3 := 5057) (q4 := 0) (by decide +kernel)
theorem mw_180 : ts_mw (ts_mi 180) := ts_mw_of (q1 := 5062) (q2 := 1005) (q3 := 5061) (q4 := 50) (by decide +kernel)
theorem mw_181 : ts_mw (ts_mi 181) := ts_mw_of (q1 := 5055) (q2 := 1005) (q3 := 5053) (q4 := 5054) (by decide +kernel)
theorem mw_182 : ts_mw (ts_mi 182) := ts_mw_of (q1 := 5067) (q2 := 1005) (q3 := 5065) (q4 := 5066) (by decide +kernel)
theorem mw_183 : ts_mw (ts_mi 183) := ts_mw_of (q1 := 5071) (q2 := 1005) (q3 := 5069) (q4 := 5070) (by decide +kernel)
theorem mw_184 : ts_mw (ts_mi 184) := ts_mw_of (q1 := 5082) (q2 := 1005) (q3 := 5081) (q4 := 51) (by decide +kernel)
theorem mw_185 : ts_mw (ts_mi 185) := ts_mw_of (q1 := 5075) (q2 := 1005) (q3 := 5073) (q4 := 5074) (by decide +kernel)
theorem mw_186 : ts_mw (ts_mi 186) := ts_mw_of (q1 := 5086) (q2 := 1005) (q3 := 5084) (q4 := 5085) (by decide +kernel)
theorem mw_187 : ts_mw (ts_mi 187) := ts_mw_of (q1 := 5097) (q2 := 1005) (q3 := 5096) (q4 := 0) (by decide +kernel)
theorem mw_188 : ts_mw (ts_mi 188) := ts_mw_of (q1 := 5094) (q2 := 1005) (q3 := 5093) (q4 := 52) (by decide +kernel)
theorem mw_189 : ts_mw (ts_mi 189) := ts_mw_of (q1 := 5102) (q2 := 1005) (q3 := 5101) (q4 := 53) (by decide +kernel)
theorem mw_190 : ts_mw (ts_mi 190) := ts_mw_of (q1 := 5090) (q2 := 1005) (q3 := 5088) (q4 := 5089) (by decide +kernel)
theorem mw_191 : ts_mw (ts_mi 191) := ts_mw_of (q1 := 5106) (q2 := 1005) (q3 := 5104) (q4 := 5105) (by decide +kernel)
theorem mw_192 : ts_mw (ts_mi 192) := ts_mw_of (q1 := 5114) (q2 := 1005) (q3 := 5113) (q4 := 54) (by decide +kernel)
theorem mw_193 : ts_mw (ts_mi 193) := ts_mw_of (q1 := 5110) (q2 := 1005) (q3 := 5108) (q4 := 5109) (by decide +kernel)
theorem mw_194 : ts_mw (ts_mi 194) := ts_mw_of (q1 := 5119) (q2 := 1005) (q3 := 5117) (q4 := 5118) (by decide +kernel)
theorem mw_195 : ts_mw (ts_mi 195) := ts_mw_of (q1 := 5123) (q2 := 1005) (q3 := 5121) (q4 := 5122) (by decide +kernel)
theorem mw_196 : ts_mw (ts_mi 196) := ts_mw_of (q1 := 5127) (q2 := 1005) (q3 := 5125) (q4 := 5126) (by decide +kernel)
theorem mw_197 : ts_mw (ts_mi 197) := ts_mw_of (q1 := 5131) (q2 := 1005) (q3 := 5129) (q4 := 5130) (by decide +kernel)
theorem mw_198 : ts_mw (ts_mi 198) := ts_mw_of (q1 := 5143) (q2 := 1005) (q3 := 5142) (q4 := 56) (by decide +kernel)
theorem mw_199 : ts_mw (ts_mi 199) := ts_mw_of (q1 := 5139) (q2 := 1005) (q3 := 5138) (q4 := 55) (by decide +kernel)
theorem mw_200 : ts_mw (ts_mi 200) := ts_mw_of (q1 := 5151) (q2 := 1005) (q3 := 5150) (q4 := 58) (by decide +kernel)
theorem mw_201 : ts_mw (ts_mi 201) := ts_mw_of (q1 := 5161) (q2 := 1005) (q3 := 5160) (q4 := 60) (by decide +kernel)
theorem mw_202 : ts_mw (ts_mi 202) := ts_mw_of (q1 := 5170) (q2 := 1005) (q3 := 5169) (q4 := 62) (by decide +kernel)
theorem mw_203 : ts_mw (ts_mi 203) := ts_mw_of (q1 := 5166) (q2 := 1005) (q3 := 5165) (q4 := 61) (by decide +kernel)
theorem mw_204 : ts_mw (ts_mi 204) := ts_mw_of (q1 := 5157) (q2 := 1005) (q3 := 5156) (q4 := 59) (by decide +kernel)
theorem mw_205 : ts_mw (ts_mi 205) := ts_mw_of (q1 := 5176) (q2 := 1005) (q3 := 5175) (q4 := 63) (by decide +kernel)
theorem mw_206 : ts_mw (ts_mi 206) := ts_mw_of (q1 := 5147) (q2 := 1005) (q3 := 5146) (q4 := 57) (by decide +kernel)
theorem mw_207 : ts_mw (ts_mi 207) := ts_mw_of (q1 := 5183) (q2 := 1005) (q3 := 5182) (q4 := 64) (by decide +kernel)
theorem mw_208 : ts_mw (ts_mi 208) := ts_mw_of (q1 := 5135) (q2 := 1005) (q3 := 5133) (q4 := 5134) (by decide +kernel)
theorem mw_209 : ts_mw (ts_mi 209) := ts_mw_of (q1 := 5190) (q2 := 1005) (q3 := 5189) (q4 := 0) (by decide +kernel)
theorem mw_210 : ts_mw (ts_mi 210) := ts_mw_of (q1 := 5187) (q2 := 1005) (q3 := 5185) (q4 := 5186) (by decide +kernel)
theorem mw_211 : ts_mw (ts_mi 211) := ts_mw_of (q1 := 5200) (q2 := 1005) (q3 := 5199) (q4 := 0) (by decide +kernel)
theorem mw_212 : ts_mw (ts_mi 212) := ts_mw_of (q1 := 5197) (q2 := 1005) (q3 := 5196) (q4 := 0) (by decide +kernel)
theorem mw_213 : ts_mw (ts_mi 213) := ts_mw_of (q1 := 5194) (q2 := 1005) (q3 := 5192) (q4 := 5193) (by decide +kernel)
theorem mw_214 : ts_mw (ts_mi 214) := ts_mw_of (q1 := 5213) (q2 := 1005) (q3 := 5212) (q4 := 0) (by decide +kernel)
theorem mw_215 : ts_mw (ts_mi 215) := ts_mw_of (q1 := 5205) (q2 := 1005) (q3 := 5203) (q4 := 5204) (by decide +kernel)
theorem mw_216 : ts_mw (ts_mi 216) := ts_mw_of (q1 := 5210) (q2 := 1005) (q3 := 5208) (q4 := 5209) (by decide +kernel)
theorem mw_217 : ts_mw (ts_mi 217) := ts_mw_of (q1 := 5217) (q2 := 1005) (q3 := 5215) (q4 := 5216) (by decide +kernel)
theorem mw_218 : ts_mw (ts_mi 218) := ts_mw_of (q1 := 5221) (q2 := 1005) (q3 := 5219) (q4 := 5220) (by decide +kernel)
theorem mw_219 : ts_mw (ts_mi 219) := ts_mw_of (q1 := 5225) (q2 := 1005) (q3 := 5223) (q4 := 5224) (by decide +kernel)
theorem mw_220 : ts_mw (ts_mi 220) := ts_mw_of (q1 := 5229) (q2 := 1005) (q3 := 5227) (q4 := 5228) (by decide +kernel)
theorem mw_221 : ts_mw (ts_mi 221) := ts_mw_of (q1 := 5233) (q2 := 1005) (q3 := 5231) (q4 := 5232) (by decide +kernel)
theorem mw_222 : ts_mw (ts_mi 222) := ts_mw_of (q1 := 5237) (q2 := 1005) (q3 := 5235) (q4 := 5236) (by decide +kernel)
theorem mw_223 : ts_mw (ts_mi 223) := ts_mw_of (q1 := 6001) (q2 := 1005) (q3 := 5239) (q4 := 6000) (by decide +kernel)
theorem mw_224 : ts_mw (ts_mi 224) := ts_mw_of (q1 := 6005) (q2 := 1005) (q3 := 6003) (q4 := 6004) (by decide +kernel)
/-! String.length(), String.charAt() of the constants -/
def F_slen (as : List ts_V) (σ : ts_S) : Option ts_A := match as with
  | [.inr (.inr (.inr j))] => cond (Nat.blt j 13) (some (some (.inl (Int32.ofNat (ts_tx.getD j []).length)), σ)) none
  | _ => none
def F_schar (as : List ts_V) (σ : ts_S) : Option ts_A := match as with
  | [.inr (.inr (.inr j)), .inl i] => cond (Nat.blt j 13) (ts_ck i (ts_tx.getD j []).length (some (some (.inl ((ts_tx.getD j []).getD i.toNatClampNeg 0)), σ))) none
  | _ => none
def ts_J (X : ts_X) (l : Launch) : Prop := (∀ σ, va_D X.2.2.2.2.2.2 (ts_ws X σ)) ∧ ts_Met X l (ts_mi 3) 1 F_slen ∧ ts_Met X l (ts_mi 4) 3 F_schar
theorem con_slen {X : ts_X} {l : Launch} (hJ : ts_J X l) : ts_Met X l (ts_mi 3) 1 F_slen := hJ.2.1
theorem con_schar {X : ts_X} {l : Launch} (hJ : ts_J X l) : ts_Met X l (ts_mi 4) 3 F_schar := hJ.2.2
