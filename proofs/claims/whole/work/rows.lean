section
-- ===== PART A: goes FIRST, ahead of the names: the tables' words, and 'selects' of the private methods out of them =====
/-- a private method of a class that the tables say can be made, by its rows of tables_1 -/
def lw_okq (q : MethodName × Nat) : Prop := (q.1.cls ≠ "java/lang/invoke/MethodHandle" ∧ q.1.cls ≠ "java/lang/invoke/VarHandle") ∧ Cond.instantiable q.1.cls q.2 ∈ tables_1 ∧ Cond.privateMethod q.1 ∈ tables_1 ∧ Cond.instanceMethod q.1 ∈ tables_1
theorem lw_p0 : lw_okq (⟨"TollSills", "tell", "(I)I"⟩, 7) := ⟨⟨by decide +kernel, by decide +kernel⟩, List.mem_of_getElem? (i := 15) (by decide +kernel), List.mem_of_getElem? (i := 169) (by decide +kernel), List.mem_of_getElem? (i := 170) (by decide +kernel)⟩
theorem lw_p1 : lw_okq (⟨"TollSills$Quarter", "placeGiven", "(I)I"⟩, 15) := ⟨⟨by decide +kernel, by decide +kernel⟩, List.mem_of_getElem? (i := 23) (by decide +kernel), List.mem_of_getElem? (i := 217) (by decide +kernel), List.mem_of_getElem? (i := 218) (by decide +kernel)⟩
theorem lw_p2 : lw_okq (⟨"TollSills$Quarter", "goIn", "(II)I"⟩, 15) := ⟨⟨by decide +kernel, by decide +kernel⟩, List.mem_of_getElem? (i := 23) (by decide +kernel), List.mem_of_getElem? (i := 293) (by decide +kernel), List.mem_of_getElem? (i := 294) (by decide +kernel)⟩
theorem lw_p3 : lw_okq (⟨"TollSills$Quarter", "loseWord", "()V"⟩, 15) := ⟨⟨by decide +kernel, by decide +kernel⟩, List.mem_of_getElem? (i := 23) (by decide +kernel), List.mem_of_getElem? (i := 299) (by decide +kernel), List.mem_of_getElem? (i := 300) (by decide +kernel)⟩
theorem lw_p4 : lw_okq (⟨"TollSills$Quarter", "comeOut", "(II)I"⟩, 15) := ⟨⟨by decide +kernel, by decide +kernel⟩, List.mem_of_getElem? (i := 23) (by decide +kernel), List.mem_of_getElem? (i := 307) (by decide +kernel), List.mem_of_getElem? (i := 308) (by decide +kernel)⟩
theorem lw_p5 : lw_okq (⟨"TollSills$Quarter", "dropKept", "(II)V"⟩, 15) := ⟨⟨by decide +kernel, by decide +kernel⟩, List.mem_of_getElem? (i := 23) (by decide +kernel), List.mem_of_getElem? (i := 311) (by decide +kernel), List.mem_of_getElem? (i := 312) (by decide +kernel)⟩
theorem lw_p6 : lw_okq (⟨"TollSills", "beginTrial", "()V"⟩, 7) := ⟨⟨by decide +kernel, by decide +kernel⟩, List.mem_of_getElem? (i := 15) (by decide +kernel), List.mem_of_getElem? (i := 368) (by decide +kernel), List.mem_of_getElem? (i := 369) (by decide +kernel)⟩
theorem lw_p7 : lw_okq (⟨"TollSills", "hasWhenMended", "(IIII)Z"⟩, 7) := ⟨⟨by decide +kernel, by decide +kernel⟩, List.mem_of_getElem? (i := 15) (by decide +kernel), List.mem_of_getElem? (i := 419) (by decide +kernel), List.mem_of_getElem? (i := 420) (by decide +kernel)⟩
theorem lw_p8 : lw_okq (⟨"TollSills", "hasAsTold", "(II)Z"⟩, 7) := ⟨⟨by decide +kernel, by decide +kernel⟩, List.mem_of_getElem? (i := 15) (by decide +kernel), List.mem_of_getElem? (i := 436) (by decide +kernel), List.mem_of_getElem? (i := 437) (by decide +kernel)⟩
theorem lw_p9 : lw_okq (⟨"TollSills", "keepsAsTold", "(II)Z"⟩, 7) := ⟨⟨by decide +kernel, by decide +kernel⟩, List.mem_of_getElem? (i := 15) (by decide +kernel), List.mem_of_getElem? (i := 452) (by decide +kernel), List.mem_of_getElem? (i := 453) (by decide +kernel)⟩
theorem lw_p10 : lw_okq (⟨"TollSills$Tape", "readToken", "()V"⟩, 6) := ⟨⟨by decide +kernel, by decide +kernel⟩, List.mem_of_getElem? (i := 96) (by decide +kernel), List.mem_of_getElem? (i := 499) (by decide +kernel), List.mem_of_getElem? (i := 500) (by decide +kernel)⟩
theorem lw_p11 : lw_okq (⟨"TollSills$Tape", "readItem", "(LTollSills$Quarter;)Z"⟩, 6) := ⟨⟨by decide +kernel, by decide +kernel⟩, List.mem_of_getElem? (i := 96) (by decide +kernel), List.mem_of_getElem? (i := 510) (by decide +kernel), List.mem_of_getElem? (i := 511) (by decide +kernel)⟩
theorem lw_p12 : lw_okq (⟨"TollSills$Tape", "readPerson", "(LTollSills$Quarter;)Z"⟩, 6) := ⟨⟨by decide +kernel, by decide +kernel⟩, List.mem_of_getElem? (i := 96) (by decide +kernel), List.mem_of_getElem? (i := 567) (by decide +kernel), List.mem_of_getElem? (i := 568) (by decide +kernel)⟩
theorem lw_p13 : lw_okq (⟨"TollSills$Tape", "isNumber", "(I)Z"⟩, 6) := ⟨⟨by decide +kernel, by decide +kernel⟩, List.mem_of_getElem? (i := 96) (by decide +kernel), List.mem_of_getElem? (i := 573) (by decide +kernel), List.mem_of_getElem? (i := 574) (by decide +kernel)⟩
theorem lw_p14 : lw_okq (⟨"TollSills$Tape", "readCrossing", "(LTollSills$Quarter;)Z"⟩, 6) := ⟨⟨by decide +kernel, by decide +kernel⟩, List.mem_of_getElem? (i := 96) (by decide +kernel), List.mem_of_getElem? (i := 579) (by decide +kernel), List.mem_of_getElem? (i := 580) (by decide +kernel)⟩
theorem lw_p15 : lw_okq (⟨"TollSills$Tape", "readSill", "(LTollSills$Quarter;I)Z"⟩, 6) := ⟨⟨by decide +kernel, by decide +kernel⟩, List.mem_of_getElem? (i := 96) (by decide +kernel), List.mem_of_getElem? (i := 597) (by decide +kernel), List.mem_of_getElem? (i := 598) (by decide +kernel)⟩
def lw_privs_1 : List (MethodName × Nat) := [(⟨"TollSills", "tell", "(I)I"⟩, 7), (⟨"TollSills$Quarter", "placeGiven", "(I)I"⟩, 15), (⟨"TollSills$Quarter", "goIn", "(II)I"⟩, 15), (⟨"TollSills$Quarter", "loseWord", "()V"⟩, 15), (⟨"TollSills$Quarter", "comeOut", "(II)I"⟩, 15), (⟨"TollSills$Quarter", "dropKept", "(II)V"⟩, 15), (⟨"TollSills", "beginTrial", "()V"⟩, 7), (⟨"TollSills", "hasWhenMended", "(IIII)Z"⟩, 7), (⟨"TollSills", "hasAsTold", "(II)Z"⟩, 7), (⟨"TollSills", "keepsAsTold", "(II)Z"⟩, 7), (⟨"TollSills$Tape", "readToken", "()V"⟩, 6), (⟨"TollSills$Tape", "readItem", "(LTollSills$Quarter;)Z"⟩, 6), (⟨"TollSills$Tape", "readPerson", "(LTollSills$Quarter;)Z"⟩, 6), (⟨"TollSills$Tape", "isNumber", "(I)Z"⟩, 6), (⟨"TollSills$Tape", "readCrossing", "(LTollSills$Quarter;)Z"⟩, 6), (⟨"TollSills$Tape", "readSill", "(LTollSills$Quarter;I)Z"⟩, 6)]
theorem lw_r1 : ∀ q ∈ lw_privs_1, lw_okq q := List.forall_mem_cons.mpr ⟨lw_p0, List.forall_mem_cons.mpr ⟨lw_p1, List.forall_mem_cons.mpr ⟨lw_p2, List.forall_mem_cons.mpr ⟨lw_p3, List.forall_mem_cons.mpr ⟨lw_p4, List.forall_mem_cons.mpr ⟨lw_p5, List.forall_mem_cons.mpr ⟨lw_p6, List.forall_mem_cons.mpr ⟨lw_p7, List.forall_mem_cons.mpr ⟨lw_p8, List.forall_mem_cons.mpr ⟨lw_p9, List.forall_mem_cons.mpr ⟨lw_p10, List.forall_mem_cons.mpr ⟨lw_p11, List.forall_mem_cons.mpr ⟨lw_p12, List.forall_mem_cons.mpr ⟨lw_p13, List.forall_mem_cons.mpr ⟨lw_p14, List.forall_mem_cons.mpr ⟨lw_p15, fun _ h => absurd h List.not_mem_nil⟩⟩⟩⟩⟩⟩⟩⟩⟩⟩⟩⟩⟩⟩⟩⟩
theorem lw_p16 : lw_okq (⟨"TollSills$Tape", "readKept", "(LTollSills$Quarter;I)Z"⟩, 6) := ⟨⟨by decide +kernel, by decide +kernel⟩, List.mem_of_getElem? (i := 96) (by decide +kernel), List.mem_of_getElem? (i := 603) (by decide +kernel), List.mem_of_getElem? (i := 604) (by decide +kernel)⟩
theorem lw_p17 : lw_okq (⟨"TollSillsModel", "become", "(II)I"⟩, 21) := ⟨⟨by decide +kernel, by decide +kernel⟩, List.mem_of_getElem? (i := 690) (by decide +kernel), List.mem_of_getElem? (i := 779) (by decide +kernel), List.mem_of_getElem? (i := 780) (by decide +kernel)⟩
theorem lw_p18 : lw_okq (⟨"TollSillsModel", "finding", "(I)I"⟩, 21) := ⟨⟨by decide +kernel, by decide +kernel⟩, List.mem_of_getElem? (i := 690) (by decide +kernel), List.mem_of_getElem? (i := 784) (by decide +kernel), List.mem_of_getElem? (i := 785) (by decide +kernel)⟩
theorem lw_p19 : lw_okq (⟨"TollSillsModel", "comes", "(I)I"⟩, 21) := ⟨⟨by decide +kernel, by decide +kernel⟩, List.mem_of_getElem? (i := 690) (by decide +kernel), List.mem_of_getElem? (i := 800) (by decide +kernel), List.mem_of_getElem? (i := 801) (by decide +kernel)⟩
theorem lw_p20 : lw_okq (⟨"TollSillsModel", "onePersonMore", "(I)I"⟩, 21) := ⟨⟨by decide +kernel, by decide +kernel⟩, List.mem_of_getElem? (i := 690) (by decide +kernel), List.mem_of_getElem? (i := 814) (by decide +kernel), List.mem_of_getElem? (i := 815) (by decide +kernel)⟩
theorem lw_p21 : lw_okq (⟨"TollSillsModel", "isSill", "(I)Z"⟩, 21) := ⟨⟨by decide +kernel, by decide +kernel⟩, List.mem_of_getElem? (i := 690) (by decide +kernel), List.mem_of_getElem? (i := 825) (by decide +kernel), List.mem_of_getElem? (i := 826) (by decide +kernel)⟩
theorem lw_p22 : lw_okq (⟨"TollSillsModel", "told", "(II)I"⟩, 21) := ⟨⟨by decide +kernel, by decide +kernel⟩, List.mem_of_getElem? (i := 690) (by decide +kernel), List.mem_of_getElem? (i := 829) (by decide +kernel), List.mem_of_getElem? (i := 830) (by decide +kernel)⟩
theorem lw_p23 : lw_okq (⟨"TollSillsModel", "sillIs", "(II)I"⟩, 21) := ⟨⟨by decide +kernel, by decide +kernel⟩, List.mem_of_getElem? (i := 690) (by decide +kernel), List.mem_of_getElem? (i := 833) (by decide +kernel), List.mem_of_getElem? (i := 834) (by decide +kernel)⟩
theorem lw_p24 : lw_okq (⟨"TollSillsModel", "holds", "(I)I"⟩, 21) := ⟨⟨by decide +kernel, by decide +kernel⟩, List.mem_of_getElem? (i := 690) (by decide +kernel), List.mem_of_getElem? (i := 837) (by decide +kernel), List.mem_of_getElem? (i := 838) (by decide +kernel)⟩
theorem lw_p25 : lw_okq (⟨"TollSillsModel", "keptSet", "(I)I"⟩, 21) := ⟨⟨by decide +kernel, by decide +kernel⟩, List.mem_of_getElem? (i := 690) (by decide +kernel), List.mem_of_getElem? (i := 841) (by decide +kernel), List.mem_of_getElem? (i := 842) (by decide +kernel)⟩
theorem lw_p26 : lw_okq (⟨"TollSillsModel", "gives", "(I)I"⟩, 21) := ⟨⟨by decide +kernel, by decide +kernel⟩, List.mem_of_getElem? (i := 690) (by decide +kernel), List.mem_of_getElem? (i := 845) (by decide +kernel), List.mem_of_getElem? (i := 846) (by decide +kernel)⟩
theorem lw_p27 : lw_okq (⟨"TollSillsModel", "givesFrom", "(I)I"⟩, 21) := ⟨⟨by decide +kernel, by decide +kernel⟩, List.mem_of_getElem? (i := 690) (by decide +kernel), List.mem_of_getElem? (i := 849) (by decide +kernel), List.mem_of_getElem? (i := 850) (by decide +kernel)⟩
theorem lw_p28 : lw_okq (⟨"TollSillsModel", "lays", "(II)I"⟩, 21) := ⟨⟨by decide +kernel, by decide +kernel⟩, List.mem_of_getElem? (i := 690) (by decide +kernel), List.mem_of_getElem? (i := 869) (by decide +kernel), List.mem_of_getElem? (i := 870) (by decide +kernel)⟩
theorem lw_p29 : lw_okq (⟨"TollSillsModel", "isPerson", "(I)Z"⟩, 21) := ⟨⟨by decide +kernel, by decide +kernel⟩, List.mem_of_getElem? (i := 690) (by decide +kernel), List.mem_of_getElem? (i := 877) (by decide +kernel), List.mem_of_getElem? (i := 878) (by decide +kernel)⟩
theorem lw_p30 : lw_okq (⟨"TollSillsModel", "personIs", "(II)I"⟩, 21) := ⟨⟨by decide +kernel, by decide +kernel⟩, List.mem_of_getElem? (i := 690) (by decide +kernel), List.mem_of_getElem? (i := 881) (by decide +kernel), List.mem_of_getElem? (i := 882) (by decide +kernel)⟩
theorem lw_p31 : lw_okq (⟨"TollSillsModel", "takesOf", "(II)I"⟩, 21) := ⟨⟨by decide +kernel, by decide +kernel⟩, List.mem_of_getElem? (i := 690) (by decide +kernel), List.mem_of_getElem? (i := 893) (by decide +kernel), List.mem_of_getElem? (i := 894) (by decide +kernel)⟩
def lw_privs_2 : List (MethodName × Nat) := [(⟨"TollSills$Tape", "readKept", "(LTollSills$Quarter;I)Z"⟩, 6), (⟨"TollSillsModel", "become", "(II)I"⟩, 21), (⟨"TollSillsModel", "finding", "(I)I"⟩, 21), (⟨"TollSillsModel", "comes", "(I)I"⟩, 21), (⟨"TollSillsModel", "onePersonMore", "(I)I"⟩, 21), (⟨"TollSillsModel", "isSill", "(I)Z"⟩, 21), (⟨"TollSillsModel", "told", "(II)I"⟩, 21), (⟨"TollSillsModel", "sillIs", "(II)I"⟩, 21), (⟨"TollSillsModel", "holds", "(I)I"⟩, 21), (⟨"TollSillsModel", "keptSet", "(I)I"⟩, 21), (⟨"TollSillsModel", "gives", "(I)I"⟩, 21), (⟨"TollSillsModel", "givesFrom", "(I)I"⟩, 21), (⟨"TollSillsModel", "lays", "(II)I"⟩, 21), (⟨"TollSillsModel", "isPerson", "(I)Z"⟩, 21), (⟨"TollSillsModel", "personIs", "(II)I"⟩, 21), (⟨"TollSillsModel", "takesOf", "(II)I"⟩, 21)]
theorem lw_r2 : ∀ q ∈ lw_privs_2, lw_okq q := List.forall_mem_cons.mpr ⟨lw_p16, List.forall_mem_cons.mpr ⟨lw_p17, List.forall_mem_cons.mpr ⟨lw_p18, List.forall_mem_cons.mpr ⟨lw_p19, List.forall_mem_cons.mpr ⟨lw_p20, List.forall_mem_cons.mpr ⟨lw_p21, List.forall_mem_cons.mpr ⟨lw_p22, List.forall_mem_cons.mpr ⟨lw_p23, List.forall_mem_cons.mpr ⟨lw_p24, List.forall_mem_cons.mpr ⟨lw_p25, List.forall_mem_cons.mpr ⟨lw_p26, List.forall_mem_cons.mpr ⟨lw_p27, List.forall_mem_cons.mpr ⟨lw_p28, List.forall_mem_cons.mpr ⟨lw_p29, List.forall_mem_cons.mpr ⟨lw_p30, List.forall_mem_cons.mpr ⟨lw_p31, fun _ h => absurd h List.not_mem_nil⟩⟩⟩⟩⟩⟩⟩⟩⟩⟩⟩⟩⟩⟩⟩⟩
theorem lw_p32 : lw_okq (⟨"TollSillsModel", "orNone", "(I)I"⟩, 21) := ⟨⟨by decide +kernel, by decide +kernel⟩, List.mem_of_getElem? (i := 690) (by decide +kernel), List.mem_of_getElem? (i := 903) (by decide +kernel), List.mem_of_getElem? (i := 904) (by decide +kernel)⟩
theorem lw_p33 : lw_okq (⟨"TollSillsModel", "mayCross", "(II)Z"⟩, 21) := ⟨⟨by decide +kernel, by decide +kernel⟩, List.mem_of_getElem? (i := 690) (by decide +kernel), List.mem_of_getElem? (i := 911) (by decide +kernel), List.mem_of_getElem? (i := 912) (by decide +kernel)⟩
theorem lw_p34 : lw_okq (⟨"TollSillsModel", "crosses", "(II)I"⟩, 21) := ⟨⟨by decide +kernel, by decide +kernel⟩, List.mem_of_getElem? (i := 690) (by decide +kernel), List.mem_of_getElem? (i := 915) (by decide +kernel), List.mem_of_getElem? (i := 916) (by decide +kernel)⟩
theorem lw_p35 : lw_okq (⟨"TollSillsModel", "goesIn", "(II)I"⟩, 21) := ⟨⟨by decide +kernel, by decide +kernel⟩, List.mem_of_getElem? (i := 690) (by decide +kernel), List.mem_of_getElem? (i := 919) (by decide +kernel), List.mem_of_getElem? (i := 920) (by decide +kernel)⟩
theorem lw_p36 : lw_okq (⟨"TollSillsModel", "more", "(III)V"⟩, 21) := ⟨⟨by decide +kernel, by decide +kernel⟩, List.mem_of_getElem? (i := 690) (by decide +kernel), List.mem_of_getElem? (i := 924) (by decide +kernel), List.mem_of_getElem? (i := 925) (by decide +kernel)⟩
theorem lw_p37 : lw_okq (⟨"TollSillsModel", "comesOut", "(II)I"⟩, 21) := ⟨⟨by decide +kernel, by decide +kernel⟩, List.mem_of_getElem? (i := 690) (by decide +kernel), List.mem_of_getElem? (i := 929) (by decide +kernel), List.mem_of_getElem? (i := 930) (by decide +kernel)⟩
theorem lw_p38 : lw_okq (⟨"TollSillsModel", "daysGo", "(I)V"⟩, 21) := ⟨⟨by decide +kernel, by decide +kernel⟩, List.mem_of_getElem? (i := 690) (by decide +kernel), List.mem_of_getElem? (i := 938) (by decide +kernel), List.mem_of_getElem? (i := 939) (by decide +kernel)⟩
theorem lw_p39 : lw_okq (⟨"TollSillsModel", "day", "()V"⟩, 21) := ⟨⟨by decide +kernel, by decide +kernel⟩, List.mem_of_getElem? (i := 690) (by decide +kernel), List.mem_of_getElem? (i := 942) (by decide +kernel), List.mem_of_getElem? (i := 943) (by decide +kernel)⟩
theorem lw_p40 : lw_okq (⟨"TollSillsModel", "placeNow", "()I"⟩, 21) := ⟨⟨by decide +kernel, by decide +kernel⟩, List.mem_of_getElem? (i := 690) (by decide +kernel), List.mem_of_getElem? (i := 946) (by decide +kernel), List.mem_of_getElem? (i := 947) (by decide +kernel)⟩
theorem lw_p41 : lw_okq (⟨"TollSillsModel", "heard", "()I"⟩, 21) := ⟨⟨by decide +kernel, by decide +kernel⟩, List.mem_of_getElem? (i := 690) (by decide +kernel), List.mem_of_getElem? (i := 954) (by decide +kernel), List.mem_of_getElem? (i := 955) (by decide +kernel)⟩
theorem lw_p42 : lw_okq (⟨"TollSillsModel", "allKept", "()I"⟩, 21) := ⟨⟨by decide +kernel, by decide +kernel⟩, List.mem_of_getElem? (i := 690) (by decide +kernel), List.mem_of_getElem? (i := 958) (by decide +kernel), List.mem_of_getElem? (i := 959) (by decide +kernel)⟩
theorem lw_p43 : lw_okq (⟨"TollSillsModel", "inside", "()I"⟩, 21) := ⟨⟨by decide +kernel, by decide +kernel⟩, List.mem_of_getElem? (i := 690) (by decide +kernel), List.mem_of_getElem? (i := 962) (by decide +kernel), List.mem_of_getElem? (i := 963) (by decide +kernel)⟩
theorem lw_p44 : lw_okq (⟨"TollSillsModel", "muteOnes", "()I"⟩, 21) := ⟨⟨by decide +kernel, by decide +kernel⟩, List.mem_of_getElem? (i := 690) (by decide +kernel), List.mem_of_getElem? (i := 966) (by decide +kernel), List.mem_of_getElem? (i := 967) (by decide +kernel)⟩
theorem lw_p45 : lw_okq (⟨"TollSillsModel", "sumOf", "(I)I"⟩, 21) := ⟨⟨by decide +kernel, by decide +kernel⟩, List.mem_of_getElem? (i := 690) (by decide +kernel), List.mem_of_getElem? (i := 970) (by decide +kernel), List.mem_of_getElem? (i := 971) (by decide +kernel)⟩
theorem lw_p46 : lw_okq (⟨"TollSillsModel", "putBack", "(I)I"⟩, 21) := ⟨⟨by decide +kernel, by decide +kernel⟩, List.mem_of_getElem? (i := 690) (by decide +kernel), List.mem_of_getElem? (i := 981) (by decide +kernel), List.mem_of_getElem? (i := 982) (by decide +kernel)⟩
theorem lw_p47 : lw_okq (⟨"TollSillsModel", "behind", "(II)I"⟩, 21) := ⟨⟨by decide +kernel, by decide +kernel⟩, List.mem_of_getElem? (i := 690) (by decide +kernel), List.mem_of_getElem? (i := 989) (by decide +kernel), List.mem_of_getElem? (i := 990) (by decide +kernel)⟩
def lw_privs_3 : List (MethodName × Nat) := [(⟨"TollSillsModel", "orNone", "(I)I"⟩, 21), (⟨"TollSillsModel", "mayCross", "(II)Z"⟩, 21), (⟨"TollSillsModel", "crosses", "(II)I"⟩, 21), (⟨"TollSillsModel", "goesIn", "(II)I"⟩, 21), (⟨"TollSillsModel", "more", "(III)V"⟩, 21), (⟨"TollSillsModel", "comesOut", "(II)I"⟩, 21), (⟨"TollSillsModel", "daysGo", "(I)V"⟩, 21), (⟨"TollSillsModel", "day", "()V"⟩, 21), (⟨"TollSillsModel", "placeNow", "()I"⟩, 21), (⟨"TollSillsModel", "heard", "()I"⟩, 21), (⟨"TollSillsModel", "allKept", "()I"⟩, 21), (⟨"TollSillsModel", "inside", "()I"⟩, 21), (⟨"TollSillsModel", "muteOnes", "()I"⟩, 21), (⟨"TollSillsModel", "sumOf", "(I)I"⟩, 21), (⟨"TollSillsModel", "putBack", "(I)I"⟩, 21), (⟨"TollSillsModel", "behind", "(II)I"⟩, 21)]
theorem lw_r3 : ∀ q ∈ lw_privs_3, lw_okq q := List.forall_mem_cons.mpr ⟨lw_p32, List.forall_mem_cons.mpr ⟨lw_p33, List.forall_mem_cons.mpr ⟨lw_p34, List.forall_mem_cons.mpr ⟨lw_p35, List.forall_mem_cons.mpr ⟨lw_p36, List.forall_mem_cons.mpr ⟨lw_p37, List.forall_mem_cons.mpr ⟨lw_p38, List.forall_mem_cons.mpr ⟨lw_p39, List.forall_mem_cons.mpr ⟨lw_p40, List.forall_mem_cons.mpr ⟨lw_p41, List.forall_mem_cons.mpr ⟨lw_p42, List.forall_mem_cons.mpr ⟨lw_p43, List.forall_mem_cons.mpr ⟨lw_p44, List.forall_mem_cons.mpr ⟨lw_p45, List.forall_mem_cons.mpr ⟨lw_p46, List.forall_mem_cons.mpr ⟨lw_p47, fun _ h => absurd h List.not_mem_nil⟩⟩⟩⟩⟩⟩⟩⟩⟩⟩⟩⟩⟩⟩⟩⟩
theorem lw_p48 : lw_okq (⟨"TollSillsModel", "hasWord", "(II)Z"⟩, 21) := ⟨⟨by decide +kernel, by decide +kernel⟩, List.mem_of_getElem? (i := 690) (by decide +kernel), List.mem_of_getElem? (i := 997) (by decide +kernel), List.mem_of_getElem? (i := 998) (by decide +kernel)⟩
theorem lw_p49 : lw_okq (⟨"TollSillsModel", "daysTo", "(III)I"⟩, 21) := ⟨⟨by decide +kernel, by decide +kernel⟩, List.mem_of_getElem? (i := 690) (by decide +kernel), List.mem_of_getElem? (i := 1005) (by decide +kernel), List.mem_of_getElem? (i := 1006) (by decide +kernel)⟩
theorem lw_p50 : lw_okq (⟨"TollSillsModel", "leastLost", "(IIII)I"⟩, 21) := ⟨⟨by decide +kernel, by decide +kernel⟩, List.mem_of_getElem? (i := 690) (by decide +kernel), List.mem_of_getElem? (i := 1020) (by decide +kernel), List.mem_of_getElem? (i := 1021) (by decide +kernel)⟩
theorem lw_p51 : lw_okq (⟨"TollSillsModel", "staysAway", "(IIII)Z"⟩, 21) := ⟨⟨by decide +kernel, by decide +kernel⟩, List.mem_of_getElem? (i := 690) (by decide +kernel), List.mem_of_getElem? (i := 1040) (by decide +kernel), List.mem_of_getElem? (i := 1041) (by decide +kernel)⟩
theorem lw_p52 : lw_okq (⟨"TollSillsModel", "lacks", "(IZ)I"⟩, 21) := ⟨⟨by decide +kernel, by decide +kernel⟩, List.mem_of_getElem? (i := 690) (by decide +kernel), List.mem_of_getElem? (i := 1052) (by decide +kernel), List.mem_of_getElem? (i := 1053) (by decide +kernel)⟩
theorem lw_p53 : lw_okq (⟨"TollSillsModel", "isSo", "(II)Z"⟩, 21) := ⟨⟨by decide +kernel, by decide +kernel⟩, List.mem_of_getElem? (i := 690) (by decide +kernel), List.mem_of_getElem? (i := 1060) (by decide +kernel), List.mem_of_getElem? (i := 1061) (by decide +kernel)⟩
theorem lw_p54 : lw_okq (⟨"TollSillsModel", "drawn", "()I"⟩, 21) := ⟨⟨by decide +kernel, by decide +kernel⟩, List.mem_of_getElem? (i := 690) (by decide +kernel), List.mem_of_getElem? (i := 1072) (by decide +kernel), List.mem_of_getElem? (i := 1073) (by decide +kernel)⟩
theorem lw_p55 : lw_okq (⟨"TollSillsModel", "token", "()V"⟩, 21) := ⟨⟨by decide +kernel, by decide +kernel⟩, List.mem_of_getElem? (i := 690) (by decide +kernel), List.mem_of_getElem? (i := 1097) (by decide +kernel), List.mem_of_getElem? (i := 1098) (by decide +kernel)⟩
theorem lw_p56 : lw_okq (⟨"TollSillsModel", "byteAt", "(I)I"⟩, 21) := ⟨⟨by decide +kernel, by decide +kernel⟩, List.mem_of_getElem? (i := 690) (by decide +kernel), List.mem_of_getElem? (i := 1101) (by decide +kernel), List.mem_of_getElem? (i := 1102) (by decide +kernel)⟩
theorem lw_p57 : lw_okq (⟨"TollSillsModel", "readItem", "()V"⟩, 21) := ⟨⟨by decide +kernel, by decide +kernel⟩, List.mem_of_getElem? (i := 690) (by decide +kernel), List.mem_of_getElem? (i := 1105) (by decide +kernel), List.mem_of_getElem? (i := 1106) (by decide +kernel)⟩
theorem lw_p58 : lw_okq (⟨"TollSillsModel", "isWord", "(Ljava/lang/String;)Z"⟩, 21) := ⟨⟨by decide +kernel, by decide +kernel⟩, List.mem_of_getElem? (i := 690) (by decide +kernel), List.mem_of_getElem? (i := 1109) (by decide +kernel), List.mem_of_getElem? (i := 1110) (by decide +kernel)⟩
theorem lw_p59 : lw_okq (⟨"TollSillsModel", "readSill", "(II)V"⟩, 21) := ⟨⟨by decide +kernel, by decide +kernel⟩, List.mem_of_getElem? (i := 690) (by decide +kernel), List.mem_of_getElem? (i := 1115) (by decide +kernel), List.mem_of_getElem? (i := 1116) (by decide +kernel)⟩
theorem lw_p60 : lw_okq (⟨"TollSillsModel", "must", "(Z)V"⟩, 21) := ⟨⟨by decide +kernel, by decide +kernel⟩, List.mem_of_getElem? (i := 690) (by decide +kernel), List.mem_of_getElem? (i := 1119) (by decide +kernel), List.mem_of_getElem? (i := 1120) (by decide +kernel)⟩
theorem lw_p61 : lw_okq (⟨"TollSillsModel", "takesWord", "(Ljava/lang/String;)Z"⟩, 21) := ⟨⟨by decide +kernel, by decide +kernel⟩, List.mem_of_getElem? (i := 690) (by decide +kernel), List.mem_of_getElem? (i := 1124) (by decide +kernel), List.mem_of_getElem? (i := 1125) (by decide +kernel)⟩
theorem lw_p62 : lw_okq (⟨"TollSillsModel", "number", "(II)I"⟩, 21) := ⟨⟨by decide +kernel, by decide +kernel⟩, List.mem_of_getElem? (i := 690) (by decide +kernel), List.mem_of_getElem? (i := 1128) (by decide +kernel), List.mem_of_getElem? (i := 1129) (by decide +kernel)⟩
theorem lw_p63 : lw_okq (⟨"TollSillsModel", "readPerson", "(I)V"⟩, 21) := ⟨⟨by decide +kernel, by decide +kernel⟩, List.mem_of_getElem? (i := 690) (by decide +kernel), List.mem_of_getElem? (i := 1134) (by decide +kernel), List.mem_of_getElem? (i := 1135) (by decide +kernel)⟩
def lw_privs_4 : List (MethodName × Nat) := [(⟨"TollSillsModel", "hasWord", "(II)Z"⟩, 21), (⟨"TollSillsModel", "daysTo", "(III)I"⟩, 21), (⟨"TollSillsModel", "leastLost", "(IIII)I"⟩, 21), (⟨"TollSillsModel", "staysAway", "(IIII)Z"⟩, 21), (⟨"TollSillsModel", "lacks", "(IZ)I"⟩, 21), (⟨"TollSillsModel", "isSo", "(II)Z"⟩, 21), (⟨"TollSillsModel", "drawn", "()I"⟩, 21), (⟨"TollSillsModel", "token", "()V"⟩, 21), (⟨"TollSillsModel", "byteAt", "(I)I"⟩, 21), (⟨"TollSillsModel", "readItem", "()V"⟩, 21), (⟨"TollSillsModel", "isWord", "(Ljava/lang/String;)Z"⟩, 21), (⟨"TollSillsModel", "readSill", "(II)V"⟩, 21), (⟨"TollSillsModel", "must", "(Z)V"⟩, 21), (⟨"TollSillsModel", "takesWord", "(Ljava/lang/String;)Z"⟩, 21), (⟨"TollSillsModel", "number", "(II)I"⟩, 21), (⟨"TollSillsModel", "readPerson", "(I)V"⟩, 21)]
theorem lw_r4 : ∀ q ∈ lw_privs_4, lw_okq q := List.forall_mem_cons.mpr ⟨lw_p48, List.forall_mem_cons.mpr ⟨lw_p49, List.forall_mem_cons.mpr ⟨lw_p50, List.forall_mem_cons.mpr ⟨lw_p51, List.forall_mem_cons.mpr ⟨lw_p52, List.forall_mem_cons.mpr ⟨lw_p53, List.forall_mem_cons.mpr ⟨lw_p54, List.forall_mem_cons.mpr ⟨lw_p55, List.forall_mem_cons.mpr ⟨lw_p56, List.forall_mem_cons.mpr ⟨lw_p57, List.forall_mem_cons.mpr ⟨lw_p58, List.forall_mem_cons.mpr ⟨lw_p59, List.forall_mem_cons.mpr ⟨lw_p60, List.forall_mem_cons.mpr ⟨lw_p61, List.forall_mem_cons.mpr ⟨lw_p62, List.forall_mem_cons.mpr ⟨lw_p63, fun _ h => absurd h List.not_mem_nil⟩⟩⟩⟩⟩⟩⟩⟩⟩⟩⟩⟩⟩⟩⟩⟩
theorem lw_p64 : lw_okq (⟨"TollSillsModel", "isToldSo", "(I)V"⟩, 21) := ⟨⟨by decide +kernel, by decide +kernel⟩, List.mem_of_getElem? (i := 690) (by decide +kernel), List.mem_of_getElem? (i := 1141) (by decide +kernel), List.mem_of_getElem? (i := 1142) (by decide +kernel)⟩
def lw_privs_5 : List (MethodName × Nat) := [(⟨"TollSillsModel", "isToldSo", "(I)V"⟩, 21)]
theorem lw_r5 : ∀ q ∈ lw_privs_5, lw_okq q := List.forall_mem_cons.mpr ⟨lw_p64, fun _ h => absurd h List.not_mem_nil⟩
def lw_privs : List (MethodName × Nat) := lw_privs_1 ++ (lw_privs_2 ++ (lw_privs_3 ++ (lw_privs_4 ++ (lw_privs_5))))
def lw_tbl : List Cond := k2_sels lw_privs ++ tables_1
theorem lw_privs_ok : ∀ q ∈ lw_privs, lw_okq q := by
  show ∀ q ∈ lw_privs_1 ++ (lw_privs_2 ++ (lw_privs_3 ++ (lw_privs_4 ++ (lw_privs_5)))), lw_okq q
  exact List.forall_mem_append.mpr ⟨lw_r1, List.forall_mem_append.mpr ⟨lw_r2, List.forall_mem_append.mpr ⟨lw_r3, List.forall_mem_append.mpr ⟨lw_r4, lw_r5⟩⟩⟩⟩
end
section
def RX0 : String := "TollSills$Kinds"
def TX0 : u_T := fun k => match k with
  | _ => ("", "", "", false)
def tyX0 : Nat → FieldType := fun k => match k with
  | _ => .int
abbrev wsX00 : List Cond := u_ws RX0 TX0 0
theorem nmX0 : ∀ a, a < 0 → ∀ b, b < 0 → a ≠ b → (TX0 a).2.1 ≠ (TX0 b).2.1 := by decide +kernel
theorem tyX0_ok : ∀ k, k < 0 → parseFieldDescriptor (TX0 k).2.2.1 = some (tyX0 k) := by decide +kernel
abbrev cX0_isUnder : ByteArray := prog_2_method_2_code
def yX0_isUnder : MethodName := ⟨RX0, "isUnder", "(II)Z"⟩
abbrev cX0_parentOf : ByteArray := prog_2_method_3_code
def yX0_parentOf : MethodName := ⟨RX0, "parentOf", "(I)I"⟩
abbrev cX0_kindNamed : ByteArray := prog_2_method_4_code
def yX0_kindNamed : MethodName := ⟨RX0, "kindNamed", "(LTollSills$Tape;)I"⟩
abbrev cX0_nameOf : ByteArray := prog_2_method_5_code
def yX0_nameOf : MethodName := ⟨RX0, "nameOf", "(I)Ljava/lang/String;"⟩
abbrev cX0_mostHeld : ByteArray := prog_2_method_6_code
def yX0_mostHeld : MethodName := ⟨RX0, "mostHeld", "(I)I"⟩
abbrev cX0_wordTaken : ByteArray := prog_2_method_7_code
def yX0_wordTaken : MethodName := ⟨RX0, "wordTaken", "(III)I"⟩
abbrev cX0_least : ByteArray := prog_2_method_8_code
def yX0_least : MethodName := ⟨RX0, "least", "(I)I"⟩
abbrev cX0_greatest : ByteArray := prog_2_method_9_code
def yX0_greatest : MethodName := ⟨RX0, "greatest", "(I)I"⟩
abbrev cX0_placeGiven : ByteArray := prog_2_method_10_code
def yX0_placeGiven : MethodName := ⟨RX0, "placeGiven", "(III)I"⟩
def RX1 : String := "TollSills$Quarter"
def TX1 : u_T := fun k => match k with
  | 0 => ("TollSills$Quarter", "crossings", "[I", true)
  | 1 => ("TollSills$Quarter", "lost", "I", false)
  | 2 => ("TollSills$Quarter", "day", "I", false)
  | 3 => ("TollSills$Quarter", "z", "I", false)
  | 4 => ("TollSills$Quarter", "sills", "I", false)
  | 5 => ("TollSills$Quarter", "kindOf", "[I", true)
  | 6 => ("TollSills$Quarter", "wearOf", "[I", true)
  | 7 => ("TollSills$Quarter", "mendedOf", "[I", true)
  | 8 => ("TollSills$Quarter", "keptBy", "[I", true)
  | 9 => ("TollSills$Quarter", "kept", "[I", true)
  | 10 => ("TollSills$Quarter", "people", "I", false)
  | 11 => ("TollSills$Quarter", "has", "[I", true)
  | 12 => ("TollSills$Quarter", "in", "[I", true)
  | 13 => ("TollSills$Quarter", "crossed", "[I", true)
  | _ => ("TollSills$Quarter", "spots", "[I", true)
def tyX1 : Nat → FieldType := fun k => match k with
  | 0 => .array .int
  | 1 => .int
  | 2 => .int
  | 3 => .int
  | 4 => .int
  | 5 => .array .int
  | 6 => .array .int
  | 7 => .array .int
  | 8 => .array .int
  | 9 => .array .int
  | 10 => .int
  | 11 => .array .int
  | 12 => .array .int
  | 13 => .array .int
  | _ => .array .int
abbrev wsX10 : List Cond := u_ws RX1 TX1 15
theorem nmX1 : ∀ a, a < 15 → ∀ b, b < 15 → a ≠ b → (TX1 a).2.1 ≠ (TX1 b).2.1 := by decide +kernel
theorem tyX1_ok : ∀ k, k < 15 → parseFieldDescriptor (TX1 k).2.2.1 = some (tyX1 k) := by decide +kernel
abbrev cX1_init : ByteArray := prog_3_method_1_code
def yX1_init : MethodName := ⟨RX1, "<init>", "()V"⟩
abbrev cX1_become : ByteArray := prog_3_method_2_code
def yX1_become : MethodName := ⟨RX1, "become", "(LTollSills$Quarter;)V"⟩
abbrev cX1_isSill : ByteArray := prog_3_method_3_code
def yX1_isSill : MethodName := ⟨RX1, "isSill", "(I)Z"⟩
abbrev cX1_isPerson : ByteArray := prog_3_method_4_code
def yX1_isPerson : MethodName := ⟨RX1, "isPerson", "(I)Z"⟩
abbrev cX1_hasWord : ByteArray := prog_3_method_5_code
def yX1_hasWord : MethodName := ⟨RX1, "hasWord", "(II)Z"⟩
abbrev cX1_addSill : ByteArray := prog_3_method_6_code
def yX1_addSill : MethodName := ⟨RX1, "addSill", "(I)I"⟩
abbrev cX1_addPerson : ByteArray := prog_3_method_7_code
def yX1_addPerson : MethodName := ⟨RX1, "addPerson", "(I)I"⟩
abbrev cX1_keptAt : ByteArray := prog_3_method_8_code
def yX1_keptAt : MethodName := ⟨RX1, "keptAt", "(II)I"⟩
abbrev cX1_keptSet : ByteArray := prog_3_method_9_code
def yX1_keptSet : MethodName := ⟨RX1, "keptSet", "(I)I"⟩
abbrev cX1_keep : ByteArray := prog_3_method_10_code
def yX1_keep : MethodName := ⟨RX1, "keep", "(II)Z"⟩
abbrev cX1_dropKept : ByteArray := prog_3_method_11_code
def yX1_dropKept : MethodName := ⟨RX1, "dropKept", "(II)V"⟩
abbrev cX1_placeGiven : ByteArray := prog_3_method_12_code
def yX1_placeGiven : MethodName := ⟨RX1, "placeGiven", "(I)I"⟩
abbrev cX1_tellSill : ByteArray := prog_3_method_13_code
def yX1_tellSill : MethodName := ⟨RX1, "tellSill", "(II)I"⟩
abbrev cX1_tellPerson : ByteArray := prog_3_method_14_code
def yX1_tellPerson : MethodName := ⟨RX1, "tellPerson", "(II)I"⟩
abbrev cX1_mayCross : ByteArray := prog_3_method_15_code
def yX1_mayCross : MethodName := ⟨RX1, "mayCross", "(II)Z"⟩
abbrev cX1_makeCrossing : ByteArray := prog_3_method_16_code
def yX1_makeCrossing : MethodName := ⟨RX1, "makeCrossing", "(II)I"⟩
abbrev cX1_goIn : ByteArray := prog_3_method_17_code
def yX1_goIn : MethodName := ⟨RX1, "goIn", "(II)I"⟩
abbrev cX1_comeOut : ByteArray := prog_3_method_18_code
def yX1_comeOut : MethodName := ⟨RX1, "comeOut", "(II)I"⟩
abbrev cX1_loseWord : ByteArray := prog_3_method_19_code
def yX1_loseWord : MethodName := ⟨RX1, "loseWord", "()V"⟩
abbrev cX1_placeOfToday : ByteArray := prog_3_method_20_code
def yX1_placeOfToday : MethodName := ⟨RX1, "placeOfToday", "()I"⟩
abbrev cX1_passDays : ByteArray := prog_3_method_21_code
def yX1_passDays : MethodName := ⟨RX1, "passDays", "(I)V"⟩
abbrev cX1_draw : ByteArray := prog_3_method_22_code
def yX1_draw : MethodName := ⟨RX1, "draw", "()I"⟩
abbrev cX1_wordsHad : ByteArray := prog_3_method_23_code
def yX1_wordsHad : MethodName := ⟨RX1, "wordsHad", "()I"⟩
abbrev cX1_wordsKept : ByteArray := prog_3_method_24_code
def yX1_wordsKept : MethodName := ⟨RX1, "wordsKept", "()I"⟩
abbrev cX1_peopleInside : ByteArray := prog_3_method_25_code
def yX1_peopleInside : MethodName := ⟨RX1, "peopleInside", "()I"⟩
abbrev cX1_peopleWithoutWords : ByteArray := prog_3_method_26_code
def yX1_peopleWithoutWords : MethodName := ⟨RX1, "peopleWithoutWords", "()I"⟩
abbrev cX1_wearOfAll : ByteArray := prog_3_method_27_code
def yX1_wearOfAll : MethodName := ⟨RX1, "wearOfAll", "()I"⟩
abbrev cX1_keptInAll : ByteArray := prog_3_method_28_code
def yX1_keptInAll : MethodName := ⟨RX1, "keptInAll", "()I"⟩
abbrev cX1_spotsInUse : ByteArray := prog_3_method_29_code
def yX1_spotsInUse : MethodName := ⟨RX1, "spotsInUse", "()I"⟩
def RX2 : String := "TollSills$Sheets"
def TX2 : u_T := fun k => match k with
  | 0 => ("TollSills$Sheets", "bits", "[I", true)
  | 1 => ("TollSills$Sheets", "sizes", "[I", true)
  | _ => ("TollSills$Sheets", "numbers", "[I", true)
def tyX2 : Nat → FieldType := fun k => match k with
  | 0 => .array .int
  | 1 => .array .int
  | _ => .array .int
abbrev wsX20 : List Cond := u_ws RX2 TX2 3
theorem nmX2 : ∀ a, a < 3 → ∀ b, b < 3 → a ≠ b → (TX2 a).2.1 ≠ (TX2 b).2.1 := by decide +kernel
theorem tyX2_ok : ∀ k, k < 3 → parseFieldDescriptor (TX2 k).2.2.1 = some (tyX2 k) := by decide +kernel
abbrev cX2_init : ByteArray := prog_4_method_1_code
def yX2_init : MethodName := ⟨RX2, "<init>", "()V"⟩
abbrev cX2_isMissing : ByteArray := prog_4_method_2_code
def yX2_isMissing : MethodName := ⟨RX2, "isMissing", "(I)Z"⟩
abbrev cX2_layOut : ByteArray := prog_4_method_3_code
def yX2_layOut : MethodName := ⟨RX2, "layOut", "(III)V"⟩
abbrev cX2_numberAt : ByteArray := prog_4_method_4_code
def yX2_numberAt : MethodName := ⟨RX2, "numberAt", "(II)I"⟩
abbrev cX2_put : ByteArray := prog_4_method_5_code
def yX2_put : MethodName := ⟨RX2, "put", "(III)V"⟩
abbrev cX2_lowestBits : ByteArray := prog_4_method_6_code
def yX2_lowestBits : MethodName := ⟨RX2, "lowestBits", "(II)I"⟩
abbrev cX2_hasRange : ByteArray := prog_4_method_7_code
def yX2_hasRange : MethodName := ⟨RX2, "hasRange", "(III)Z"⟩
abbrev cX2_move : ByteArray := prog_4_method_8_code
def yX2_move : MethodName := ⟨RX2, "move", "(IIIII)V"⟩
abbrev cX2_admits : ByteArray := prog_4_method_9_code
def yX2_admits : MethodName := ⟨RX2, "admits", "(III)Z"⟩
def RX3 : String := "TollSills$Tape"
def TX3 : u_T := fun k => match k with
  | 0 => ("TollSills$Tape", "bytes", "[I", true)
  | 1 => ("TollSills$Tape", "size", "I", false)
  | 2 => ("TollSills$Tape", "token", "I", false)
  | 3 => ("TollSills$Tape", "place", "I", false)
  | 4 => ("TollSills$Tape", "end", "I", false)
  | _ => ("TollSills$Tape", "number", "I", false)
def tyX3 : Nat → FieldType := fun k => match k with
  | 0 => .array .int
  | 1 => .int
  | 2 => .int
  | 3 => .int
  | 4 => .int
  | _ => .int
abbrev wsX30 : List Cond := u_ws RX3 TX3 6
theorem nmX3 : ∀ a, a < 6 → ∀ b, b < 6 → a ≠ b → (TX3 a).2.1 ≠ (TX3 b).2.1 := by decide +kernel
theorem tyX3_ok : ∀ k, k < 6 → parseFieldDescriptor (TX3 k).2.2.1 = some (tyX3 k) := by decide +kernel
abbrev cX3_init : ByteArray := prog_5_method_1_code
def yX3_init : MethodName := ⟨RX3, "<init>", "()V"⟩
abbrev cX3_append : ByteArray := prog_5_method_2_code
def yX3_append : MethodName := ⟨RX3, "append", "(II)Z"⟩
abbrev cX3_readItems : ByteArray := prog_5_method_3_code
def yX3_readItems : MethodName := ⟨RX3, "readItems", "(LTollSills$Quarter;)I"⟩
abbrev cX3_readItem : ByteArray := prog_5_method_4_code
def yX3_readItem : MethodName := ⟨RX3, "readItem", "(LTollSills$Quarter;)Z"⟩
abbrev cX3_readSill : ByteArray := prog_5_method_5_code
def yX3_readSill : MethodName := ⟨RX3, "readSill", "(LTollSills$Quarter;I)Z"⟩
abbrev cX3_readKept : ByteArray := prog_5_method_6_code
def yX3_readKept : MethodName := ⟨RX3, "readKept", "(LTollSills$Quarter;I)Z"⟩
abbrev cX3_readPerson : ByteArray := prog_5_method_7_code
def yX3_readPerson : MethodName := ⟨RX3, "readPerson", "(LTollSills$Quarter;)Z"⟩
abbrev cX3_readCrossing : ByteArray := prog_5_method_8_code
def yX3_readCrossing : MethodName := ⟨RX3, "readCrossing", "(LTollSills$Quarter;)Z"⟩
abbrev cX3_isWord : ByteArray := prog_5_method_9_code
def yX3_isWord : MethodName := ⟨RX3, "isWord", "(Ljava/lang/String;)Z"⟩
abbrev cX3_isNumber : ByteArray := prog_5_method_10_code
def yX3_isNumber : MethodName := ⟨RX3, "isNumber", "(I)Z"⟩
abbrev cX3_readToken : ByteArray := prog_5_method_11_code
def yX3_readToken : MethodName := ⟨RX3, "readToken", "()V"⟩
abbrev cX3_isLetter : ByteArray := prog_5_method_12_code
def yX3_isLetter : MethodName := ⟨RX3, "isLetter", "(I)Z"⟩
abbrev cX3_isDigit : ByteArray := prog_5_method_13_code
def yX3_isDigit : MethodName := ⟨RX3, "isDigit", "(I)Z"⟩
def RX4 : String := "TollSills"
def TX4 : u_T := fun k => match k with
  | 0 => ("TollSills", "quarter", "LTollSills$Quarter;", true)
  | 1 => ("TollSills", "trial", "LTollSills$Quarter;", true)
  | 2 => ("TollSills", "keptImage", "LTollSills$Quarter;", true)
  | 3 => ("TollSills", "imageIsKept", "Z", false)
  | 4 => ("TollSills", "tape", "LTollSills$Tape;", true)
  | 5 => ("TollSills", "sheets", "LTollSills$Sheets;", true)
  | _ => ("TollSills", "found", "[I", true)
def tyX4 : Nat → FieldType := fun k => match k with
  | 0 => .object "TollSills$Quarter"
  | 1 => .object "TollSills$Quarter"
  | 2 => .object "TollSills$Quarter"
  | 3 => .boolean
  | 4 => .object "TollSills$Tape"
  | 5 => .object "TollSills$Sheets"
  | _ => .array .int
abbrev wsX40 : List Cond := u_ws RX4 TX4 7
theorem nmX4 : ∀ a, a < 7 → ∀ b, b < 7 → a ≠ b → (TX4 a).2.1 ≠ (TX4 b).2.1 := by decide +kernel
theorem tyX4_ok : ∀ k, k < 7 → parseFieldDescriptor (TX4 k).2.2.1 = some (tyX4 k) := by decide +kernel
abbrev cX4_init : ByteArray := prog_1_method_1_code
def yX4_init : MethodName := ⟨RX4, "<init>", "()V"⟩
abbrev cX4_list : ByteArray := prog_1_method_2_code
def yX4_list : MethodName := ⟨RX4, "list", "(III)I"⟩
abbrev cX4_listed : ByteArray := prog_1_method_3_code
def yX4_listed : MethodName := ⟨RX4, "listed", "(I)I"⟩
abbrev cX4_sill : ByteArray := prog_1_method_4_code
def yX4_sill : MethodName := ⟨RX4, "sill", "(I)I"⟩
abbrev cX4_person : ByteArray := prog_1_method_5_code
def yX4_person : MethodName := ⟨RX4, "person", "(I)I"⟩
abbrev cX4_of : ByteArray := prog_1_method_6_code
def yX4_of : MethodName := ⟨RX4, "of", "(II)I"⟩
abbrev cX4_word : ByteArray := prog_1_method_7_code
def yX4_word : MethodName := ⟨RX4, "word", "(II)I"⟩
abbrev cX4_change : ByteArray := prog_1_method_8_code
def yX4_change : MethodName := ⟨RX4, "change", "(III)I"⟩
abbrev cX4_lay : ByteArray := prog_1_method_9_code
def yX4_lay : MethodName := ⟨RX4, "lay", "(II)I"⟩
abbrev cX4_ofPerson : ByteArray := prog_1_method_10_code
def yX4_ofPerson : MethodName := ⟨RX4, "ofPerson", "(II)I"⟩
abbrev cX4_send : ByteArray := prog_1_method_11_code
def yX4_send : MethodName := ⟨RX4, "send", "(III)I"⟩
abbrev cX4_takes : ByteArray := prog_1_method_12_code
def yX4_takes : MethodName := ⟨RX4, "takes", "(II)I"⟩
abbrev cX4_cross : ByteArray := prog_1_method_13_code
def yX4_cross : MethodName := ⟨RX4, "cross", "(II)I"⟩
abbrev cX4_go : ByteArray := prog_1_method_14_code
def yX4_go : MethodName := ⟨RX4, "go", "(I)I"⟩
abbrev cX4_now : ByteArray := prog_1_method_15_code
def yX4_now : MethodName := ⟨RX4, "now", "(I)I"⟩
abbrev cX4_ahead : ByteArray := prog_1_method_16_code
def yX4_ahead : MethodName := ⟨RX4, "ahead", "(III)I"⟩
abbrev cX4_later : ByteArray := prog_1_method_17_code
def yX4_later : MethodName := ⟨RX4, "later", "(III)I"⟩
abbrev cX4_hears : ByteArray := prog_1_method_18_code
def yX4_hears : MethodName := ⟨RX4, "hears", "(II)I"⟩
abbrev cX4_waste : ByteArray := prog_1_method_19_code
def yX4_waste : MethodName := ⟨RX4, "waste", "(I)I"⟩
abbrev cX4_mute : ByteArray := prog_1_method_20_code
def yX4_mute : MethodName := ⟨RX4, "mute", "(I)I"⟩
abbrev cX4_sillFor : ByteArray := prog_1_method_21_code
def yX4_sillFor : MethodName := ⟨RX4, "sillFor", "(II)I"⟩
abbrev cX4_kindFor : ByteArray := prog_1_method_22_code
def yX4_kindFor : MethodName := ⟨RX4, "kindFor", "(II)I"⟩
abbrev cX4_wordFor : ByteArray := prog_1_method_23_code
def yX4_wordFor : MethodName := ⟨RX4, "wordFor", "(III)I"⟩
abbrev cX4_mend : ByteArray := prog_1_method_24_code
def yX4_mend : MethodName := ⟨RX4, "mend", "(III)I"⟩
abbrev cX4_seek : ByteArray := prog_1_method_25_code
def yX4_seek : MethodName := ⟨RX4, "seek", "(II)I"⟩
abbrev cX4_fits : ByteArray := prog_1_method_26_code
def yX4_fits : MethodName := ⟨RX4, "fits", "(II)I"⟩
abbrev cX4_kinds : ByteArray := prog_1_method_27_code
def yX4_kinds : MethodName := ⟨RX4, "kinds", "(II)I"⟩
abbrev cX4_stroll : ByteArray := prog_1_method_28_code
def yX4_stroll : MethodName := ⟨RX4, "stroll", "(I)I"⟩
abbrev cX4_odds : ByteArray := prog_1_method_29_code
def yX4_odds : MethodName := ⟨RX4, "odds", "(III)J"⟩
abbrev cX4_seed : ByteArray := prog_1_method_30_code
def yX4_seed : MethodName := ⟨RX4, "seed", "(I)I"⟩
abbrev cX4_feed : ByteArray := prog_1_method_31_code
def yX4_feed : MethodName := ⟨RX4, "feed", "(II)I"⟩
abbrev cX4_wipe : ByteArray := prog_1_method_32_code
def yX4_wipe : MethodName := ⟨RX4, "wipe", "()I"⟩
abbrev cX4_text : ByteArray := prog_1_method_33_code
def yX4_text : MethodName := ⟨RX4, "text", "()I"⟩
abbrev cX4_hold : ByteArray := prog_1_method_34_code
def yX4_hold : MethodName := ⟨RX4, "hold", "(II)I"⟩
abbrev cX4_as : ByteArray := prog_1_method_35_code
def yX4_as : MethodName := ⟨RX4, "as", "(II)I"⟩
abbrev cX4_sheet : ByteArray := prog_1_method_36_code
def yX4_sheet : MethodName := ⟨RX4, "sheet", "(III)I"⟩
abbrev cX4_write : ByteArray := prog_1_method_37_code
def yX4_write : MethodName := ⟨RX4, "write", "(III)I"⟩
abbrev cX4_copy : ByteArray := prog_1_method_38_code
def yX4_copy : MethodName := ⟨RX4, "copy", "(IIIII)I"⟩
abbrev cX4_load : ByteArray := prog_1_method_39_code
def yX4_load : MethodName := ⟨RX4, "load", "(I)I"⟩
abbrev cX4_judge : ByteArray := prog_1_method_40_code
def yX4_judge : MethodName := ⟨RX4, "judge", "(I)I"⟩
abbrev cX4_image : ByteArray := prog_1_method_41_code
def yX4_image : MethodName := ⟨RX4, "image", "()I"⟩
abbrev cX4_undo : ByteArray := prog_1_method_42_code
def yX4_undo : MethodName := ⟨RX4, "undo", "()I"⟩
abbrev cX4_tear : ByteArray := prog_1_method_43_code
def yX4_tear : MethodName := ⟨RX4, "tear", "()I"⟩
abbrev cX4_count : ByteArray := prog_1_method_44_code
def yX4_count : MethodName := ⟨RX4, "count", "(I)I"⟩
abbrev cX4_status : ByteArray := prog_1_method_45_code
def yX4_status : MethodName := ⟨RX4, "status", "(I)I"⟩
abbrev cX4_tell : ByteArray := prog_1_method_46_code
def yX4_tell : MethodName := ⟨RX4, "tell", "(I)I"⟩
abbrev cX4_isWithin : ByteArray := prog_1_method_47_code
def yX4_isWithin : MethodName := ⟨RX4, "isWithin", "(III)Z"⟩
abbrev cX4_isBelow : ByteArray := prog_1_method_48_code
def yX4_isBelow : MethodName := ⟨RX4, "isBelow", "(II)Z"⟩
abbrev cX4_replace : ByteArray := prog_1_method_49_code
def yX4_replace : MethodName := ⟨RX4, "replace", "([III)I"⟩
abbrev cX4_beginTrial : ByteArray := prog_1_method_50_code
def yX4_beginTrial : MethodName := ⟨RX4, "beginTrial", "()V"⟩
abbrev cX4_hasWhenMended : ByteArray := prog_1_method_51_code
def yX4_hasWhenMended : MethodName := ⟨RX4, "hasWhenMended", "(IIII)Z"⟩
abbrev cX4_hasAsTold : ByteArray := prog_1_method_52_code
def yX4_hasAsTold : MethodName := ⟨RX4, "hasAsTold", "(II)Z"⟩
abbrev cX4_keepsAsTold : ByteArray := prog_1_method_53_code
def yX4_keepsAsTold : MethodName := ⟨RX4, "keepsAsTold", "(II)Z"⟩
abbrev cX4_commonDivisor : ByteArray := prog_1_method_54_code
def yX4_commonDivisor : MethodName := ⟨RX4, "commonDivisor", "(II)I"⟩
abbrev cX4_power : ByteArray := prog_1_method_55_code
def yX4_power : MethodName := ⟨RX4, "power", "(II)J"⟩
def RX5 : String := "TollSillsModel"
def TX5 : u_T := fun k => match k with
  | 0 => ("TollSillsModel", "now", "[I", true)
  | 1 => ("TollSillsModel", "kept", "[I", true)
  | 2 => ("TollSillsModel", "aside", "[I", true)
  | 3 => ("TollSillsModel", "isKept", "Z", false)
  | 4 => ("TollSillsModel", "found", "[I", true)
  | 5 => ("TollSillsModel", "tape", "[I", true)
  | 6 => ("TollSillsModel", "taped", "I", false)
  | 7 => ("TollSillsModel", "begins", "I", false)
  | 8 => ("TollSillsModel", "ends", "I", false)
  | 9 => ("TollSillsModel", "sort", "I", false)
  | 10 => ("TollSillsModel", "value", "I", false)
  | 11 => ("TollSillsModel", "isWrong", "Z", false)
  | 12 => ("TollSillsModel", "kindNames", "[Ljava/lang/String;", true)
  | 13 => ("TollSillsModel", "items", "[I", true)
  | 14 => ("TollSillsModel", "itemMany", "I", false)
  | 15 => ("TollSillsModel", "sillsThen", "I", false)
  | 16 => ("TollSillsModel", "peopleThen", "I", false)
  | 17 => ("TollSillsModel", "widths", "[I", true)
  | 18 => ("TollSillsModel", "sizes", "[I", true)
  | 19 => ("TollSillsModel", "numbers", "[I", true)
  | _ => ("TollSillsModel", "moved", "[I", true)
def tyX5 : Nat → FieldType := fun k => match k with
  | 0 => .array .int
  | 1 => .array .int
  | 2 => .array .int
  | 3 => .boolean
  | 4 => .array .int
  | 5 => .array .int
  | 6 => .int
  | 7 => .int
  | 8 => .int
  | 9 => .int
  | 10 => .int
  | 11 => .boolean
  | 12 => .array (.object "java/lang/String")
  | 13 => .array .int
  | 14 => .int
  | 15 => .int
  | 16 => .int
  | 17 => .array .int
  | 18 => .array .int
  | 19 => .array .int
  | _ => .array .int
abbrev wsX50 : List Cond := u_ws RX5 TX5 21
theorem nmX5 : ∀ a, a < 21 → ∀ b, b < 21 → a ≠ b → (TX5 a).2.1 ≠ (TX5 b).2.1 := by decide +kernel
theorem tyX5_ok : ∀ k, k < 21 → parseFieldDescriptor (TX5 k).2.2.1 = some (tyX5 k) := by decide +kernel
abbrev cX5_init : ByteArray := prog_7_method_1_code
def yX5_init : MethodName := ⟨RX5, "<init>", "()V"⟩
abbrev cX5_finding : ByteArray := prog_7_method_2_code
def yX5_finding : MethodName := ⟨RX5, "finding", "(I)I"⟩
abbrev cX5_within : ByteArray := prog_7_method_3_code
def yX5_within : MethodName := ⟨RX5, "within", "(III)Z"⟩
abbrev cX5_become : ByteArray := prog_7_method_4_code
def yX5_become : MethodName := ⟨RX5, "become", "(II)I"⟩
abbrev cX5_copyRow : ByteArray := prog_7_method_5_code
def yX5_copyRow : MethodName := ⟨RX5, "copyRow", "([I[I)V"⟩
abbrev cX5_putBack : ByteArray := prog_7_method_6_code
def yX5_putBack : MethodName := ⟨RX5, "putBack", "(I)I"⟩
abbrev cX5_orNone : ByteArray := prog_7_method_7_code
def yX5_orNone : MethodName := ⟨RX5, "orNone", "(I)I"⟩
abbrev cX5_bits : ByteArray := prog_7_method_8_code
def yX5_bits : MethodName := ⟨RX5, "bits", "(I)I"⟩
abbrev cX5_isSet : ByteArray := prog_7_method_9_code
def yX5_isSet : MethodName := ⟨RX5, "isSet", "(I)Z"⟩
abbrev cX5_isWordNumber : ByteArray := prog_7_method_10_code
def yX5_isWordNumber : MethodName := ⟨RX5, "isWordNumber", "(I)Z"⟩
abbrev cX5_isPlace : ByteArray := prog_7_method_11_code
def yX5_isPlace : MethodName := ⟨RX5, "isPlace", "(I)Z"⟩
abbrev cX5_list : ByteArray := prog_7_method_12_code
def yX5_list : MethodName := ⟨RX5, "list", "(III)I"⟩
abbrev cX5_listed : ByteArray := prog_7_method_13_code
def yX5_listed : MethodName := ⟨RX5, "listed", "(I)I"⟩
abbrev cX5_placeNow : ByteArray := prog_7_method_14_code
def yX5_placeNow : MethodName := ⟨RX5, "placeNow", "()I"⟩
abbrev cX5_sillAt : ByteArray := prog_7_method_15_code
def yX5_sillAt : MethodName := ⟨RX5, "sillAt", "(II)I"⟩
abbrev cX5_sillIs : ByteArray := prog_7_method_16_code
def yX5_sillIs : MethodName := ⟨RX5, "sillIs", "(II)I"⟩
abbrev cX5_isSill : ByteArray := prog_7_method_17_code
def yX5_isSill : MethodName := ⟨RX5, "isSill", "(I)Z"⟩
abbrev cX5_personAt : ByteArray := prog_7_method_18_code
def yX5_personAt : MethodName := ⟨RX5, "personAt", "(II)I"⟩
abbrev cX5_personIs : ByteArray := prog_7_method_19_code
def yX5_personIs : MethodName := ⟨RX5, "personIs", "(II)I"⟩
abbrev cX5_isPerson : ByteArray := prog_7_method_20_code
def yX5_isPerson : MethodName := ⟨RX5, "isPerson", "(I)Z"⟩
abbrev cX5_isKind : ByteArray := prog_7_method_21_code
def yX5_isKind : MethodName := ⟨RX5, "isKind", "(I)Z"⟩
abbrev cX5_comes : ByteArray := prog_7_method_22_code
def yX5_comes : MethodName := ⟨RX5, "comes", "(I)I"⟩
abbrev cX5_sill : ByteArray := prog_7_method_23_code
def yX5_sill : MethodName := ⟨RX5, "sill", "(I)I"⟩
abbrev cX5_onePersonMore : ByteArray := prog_7_method_24_code
def yX5_onePersonMore : MethodName := ⟨RX5, "onePersonMore", "(I)I"⟩
abbrev cX5_person : ByteArray := prog_7_method_25_code
def yX5_person : MethodName := ⟨RX5, "person", "(I)I"⟩
abbrev cX5_holds : ByteArray := prog_7_method_26_code
def yX5_holds : MethodName := ⟨RX5, "holds", "(I)I"⟩
abbrev cX5_keptSet : ByteArray := prog_7_method_27_code
def yX5_keptSet : MethodName := ⟨RX5, "keptSet", "(I)I"⟩
abbrev cX5_givesFrom : ByteArray := prog_7_method_28_code
def yX5_givesFrom : MethodName := ⟨RX5, "givesFrom", "(I)I"⟩
abbrev cX5_gives : ByteArray := prog_7_method_29_code
def yX5_gives : MethodName := ⟨RX5, "gives", "(I)I"⟩
abbrev cX5_greatest : ByteArray := prog_7_method_30_code
def yX5_greatest : MethodName := ⟨RX5, "greatest", "(I)I"⟩
abbrev cX5_least : ByteArray := prog_7_method_31_code
def yX5_least : MethodName := ⟨RX5, "least", "(I)I"⟩
abbrev cX5_takesOf : ByteArray := prog_7_method_32_code
def yX5_takesOf : MethodName := ⟨RX5, "takesOf", "(II)I"⟩
abbrev cX5_told : ByteArray := prog_7_method_33_code
def yX5_told : MethodName := ⟨RX5, "told", "(II)I"⟩
abbrev cX5_of : ByteArray := prog_7_method_34_code
def yX5_of : MethodName := ⟨RX5, "of", "(II)I"⟩
abbrev cX5_word : ByteArray := prog_7_method_35_code
def yX5_word : MethodName := ⟨RX5, "word", "(II)I"⟩
abbrev cX5_change : ByteArray := prog_7_method_36_code
def yX5_change : MethodName := ⟨RX5, "change", "(III)I"⟩
abbrev cX5_lays : ByteArray := prog_7_method_37_code
def yX5_lays : MethodName := ⟨RX5, "lays", "(II)I"⟩
abbrev cX5_lay : ByteArray := prog_7_method_38_code
def yX5_lay : MethodName := ⟨RX5, "lay", "(II)I"⟩
abbrev cX5_ofPerson : ByteArray := prog_7_method_39_code
def yX5_ofPerson : MethodName := ⟨RX5, "ofPerson", "(II)I"⟩
abbrev cX5_send : ByteArray := prog_7_method_40_code
def yX5_send : MethodName := ⟨RX5, "send", "(III)I"⟩
abbrev cX5_takes : ByteArray := prog_7_method_41_code
def yX5_takes : MethodName := ⟨RX5, "takes", "(II)I"⟩
abbrev cX5_more : ByteArray := prog_7_method_42_code
def yX5_more : MethodName := ⟨RX5, "more", "(III)V"⟩
abbrev cX5_mayCross : ByteArray := prog_7_method_43_code
def yX5_mayCross : MethodName := ⟨RX5, "mayCross", "(II)Z"⟩
abbrev cX5_goesIn : ByteArray := prog_7_method_44_code
def yX5_goesIn : MethodName := ⟨RX5, "goesIn", "(II)I"⟩
abbrev cX5_comesOut : ByteArray := prog_7_method_45_code
def yX5_comesOut : MethodName := ⟨RX5, "comesOut", "(II)I"⟩
abbrev cX5_crosses : ByteArray := prog_7_method_46_code
def yX5_crosses : MethodName := ⟨RX5, "crosses", "(II)I"⟩
abbrev cX5_cross : ByteArray := prog_7_method_47_code
def yX5_cross : MethodName := ⟨RX5, "cross", "(II)I"⟩
abbrev cX5_day : ByteArray := prog_7_method_48_code
def yX5_day : MethodName := ⟨RX5, "day", "()V"⟩
abbrev cX5_daysGo : ByteArray := prog_7_method_49_code
def yX5_daysGo : MethodName := ⟨RX5, "daysGo", "(I)V"⟩
abbrev cX5_go : ByteArray := prog_7_method_50_code
def yX5_go : MethodName := ⟨RX5, "go", "(I)I"⟩
abbrev cX5_sumOf : ByteArray := prog_7_method_51_code
def yX5_sumOf : MethodName := ⟨RX5, "sumOf", "(I)I"⟩
abbrev cX5_heard : ByteArray := prog_7_method_52_code
def yX5_heard : MethodName := ⟨RX5, "heard", "()I"⟩
abbrev cX5_allKept : ByteArray := prog_7_method_53_code
def yX5_allKept : MethodName := ⟨RX5, "allKept", "()I"⟩
abbrev cX5_inside : ByteArray := prog_7_method_54_code
def yX5_inside : MethodName := ⟨RX5, "inside", "()I"⟩
abbrev cX5_muteOnes : ByteArray := prog_7_method_55_code
def yX5_muteOnes : MethodName := ⟨RX5, "muteOnes", "()I"⟩
abbrev cX5_now : ByteArray := prog_7_method_56_code
def yX5_now : MethodName := ⟨RX5, "now", "(I)I"⟩
abbrev cX5_behind : ByteArray := prog_7_method_57_code
def yX5_behind : MethodName := ⟨RX5, "behind", "(II)I"⟩
abbrev cX5_ahead : ByteArray := prog_7_method_58_code
def yX5_ahead : MethodName := ⟨RX5, "ahead", "(III)I"⟩
abbrev cX5_later : ByteArray := prog_7_method_59_code
def yX5_later : MethodName := ⟨RX5, "later", "(III)I"⟩
abbrev cX5_hasWord : ByteArray := prog_7_method_60_code
def yX5_hasWord : MethodName := ⟨RX5, "hasWord", "(II)Z"⟩
abbrev cX5_hears : ByteArray := prog_7_method_61_code
def yX5_hears : MethodName := ⟨RX5, "hears", "(II)I"⟩
abbrev cX5_daysTo : ByteArray := prog_7_method_62_code
def yX5_daysTo : MethodName := ⟨RX5, "daysTo", "(III)I"⟩
abbrev cX5_waste : ByteArray := prog_7_method_63_code
def yX5_waste : MethodName := ⟨RX5, "waste", "(I)I"⟩
abbrev cX5_mute : ByteArray := prog_7_method_64_code
def yX5_mute : MethodName := ⟨RX5, "mute", "(I)I"⟩
abbrev cX5_isThought : ByteArray := prog_7_method_65_code
def yX5_isThought : MethodName := ⟨RX5, "isThought", "(I)Z"⟩
abbrev cX5_leastLost : ByteArray := prog_7_method_66_code
def yX5_leastLost : MethodName := ⟨RX5, "leastLost", "(IIII)I"⟩
abbrev cX5_sillFor : ByteArray := prog_7_method_67_code
def yX5_sillFor : MethodName := ⟨RX5, "sillFor", "(II)I"⟩
abbrev cX5_kindFor : ByteArray := prog_7_method_68_code
def yX5_kindFor : MethodName := ⟨RX5, "kindFor", "(II)I"⟩
abbrev cX5_wordFor : ByteArray := prog_7_method_69_code
def yX5_wordFor : MethodName := ⟨RX5, "wordFor", "(III)I"⟩
abbrev cX5_staysAway : ByteArray := prog_7_method_70_code
def yX5_staysAway : MethodName := ⟨RX5, "staysAway", "(IIII)Z"⟩
abbrev cX5_mend : ByteArray := prog_7_method_71_code
def yX5_mend : MethodName := ⟨RX5, "mend", "(III)I"⟩
abbrev cX5_seek : ByteArray := prog_7_method_72_code
def yX5_seek : MethodName := ⟨RX5, "seek", "(II)I"⟩
abbrev cX5_lacks : ByteArray := prog_7_method_73_code
def yX5_lacks : MethodName := ⟨RX5, "lacks", "(IZ)I"⟩
abbrev cX5_isSo : ByteArray := prog_7_method_74_code
def yX5_isSo : MethodName := ⟨RX5, "isSo", "(II)Z"⟩
abbrev cX5_fits : ByteArray := prog_7_method_75_code
def yX5_fits : MethodName := ⟨RX5, "fits", "(II)I"⟩
abbrev cX5_kinds : ByteArray := prog_7_method_76_code
def yX5_kinds : MethodName := ⟨RX5, "kinds", "(II)I"⟩
abbrev cX5_drawn : ByteArray := prog_7_method_77_code
def yX5_drawn : MethodName := ⟨RX5, "drawn", "()I"⟩
abbrev cX5_stroll : ByteArray := prog_7_method_78_code
def yX5_stroll : MethodName := ⟨RX5, "stroll", "(I)I"⟩
abbrev cX5_odds : ByteArray := prog_7_method_79_code
def yX5_odds : MethodName := ⟨RX5, "odds", "(III)J"⟩
abbrev cX5_seed : ByteArray := prog_7_method_80_code
def yX5_seed : MethodName := ⟨RX5, "seed", "(I)I"⟩
abbrev cX5_feed : ByteArray := prog_7_method_81_code
def yX5_feed : MethodName := ⟨RX5, "feed", "(II)I"⟩
abbrev cX5_wipe : ByteArray := prog_7_method_82_code
def yX5_wipe : MethodName := ⟨RX5, "wipe", "()I"⟩
abbrev cX5_byteAt : ByteArray := prog_7_method_83_code
def yX5_byteAt : MethodName := ⟨RX5, "byteAt", "(I)I"⟩
abbrev cX5_token : ByteArray := prog_7_method_84_code
def yX5_token : MethodName := ⟨RX5, "token", "()V"⟩
abbrev cX5_isWord : ByteArray := prog_7_method_85_code
def yX5_isWord : MethodName := ⟨RX5, "isWord", "(Ljava/lang/String;)Z"⟩
abbrev cX5_must : ByteArray := prog_7_method_86_code
def yX5_must : MethodName := ⟨RX5, "must", "(Z)V"⟩
abbrev cX5_number : ByteArray := prog_7_method_87_code
def yX5_number : MethodName := ⟨RX5, "number", "(II)I"⟩
abbrev cX5_takesWord : ByteArray := prog_7_method_88_code
def yX5_takesWord : MethodName := ⟨RX5, "takesWord", "(Ljava/lang/String;)Z"⟩
abbrev cX5_readSill : ByteArray := prog_7_method_89_code
def yX5_readSill : MethodName := ⟨RX5, "readSill", "(II)V"⟩
abbrev cX5_readPerson : ByteArray := prog_7_method_90_code
def yX5_readPerson : MethodName := ⟨RX5, "readPerson", "(I)V"⟩
abbrev cX5_readItem : ByteArray := prog_7_method_91_code
def yX5_readItem : MethodName := ⟨RX5, "readItem", "()V"⟩
abbrev cX5_isToldSo : ByteArray := prog_7_method_92_code
def yX5_isToldSo : MethodName := ⟨RX5, "isToldSo", "(I)V"⟩
abbrev cX5_text : ByteArray := prog_7_method_93_code
def yX5_text : MethodName := ⟨RX5, "text", "()I"⟩
abbrev cX5_isSpot : ByteArray := prog_7_method_94_code
def yX5_isSpot : MethodName := ⟨RX5, "isSpot", "(I)Z"⟩
abbrev cX5_hold : ByteArray := prog_7_method_95_code
def yX5_hold : MethodName := ⟨RX5, "hold", "(II)I"⟩
abbrev cX5_as : ByteArray := prog_7_method_96_code
def yX5_as : MethodName := ⟨RX5, "as", "(II)I"⟩
abbrev cX5_isSheet : ByteArray := prog_7_method_97_code
def yX5_isSheet : MethodName := ⟨RX5, "isSheet", "(I)Z"⟩
abbrev cX5_cutTo : ByteArray := prog_7_method_98_code
def yX5_cutTo : MethodName := ⟨RX5, "cutTo", "(II)I"⟩
abbrev cX5_sheet : ByteArray := prog_7_method_99_code
def yX5_sheet : MethodName := ⟨RX5, "sheet", "(III)I"⟩
abbrev cX5_write : ByteArray := prog_7_method_100_code
def yX5_write : MethodName := ⟨RX5, "write", "(III)I"⟩
abbrev cX5_copy : ByteArray := prog_7_method_101_code
def yX5_copy : MethodName := ⟨RX5, "copy", "(IIIII)I"⟩
abbrev cX5_above : ByteArray := prog_7_method_102_code
def yX5_above : MethodName := ⟨RX5, "above", "(I)I"⟩
abbrev cX5_isUnder : ByteArray := prog_7_method_103_code
def yX5_isUnder : MethodName := ⟨RX5, "isUnder", "(II)Z"⟩
abbrev cX5_load : ByteArray := prog_7_method_104_code
def yX5_load : MethodName := ⟨RX5, "load", "(I)I"⟩
abbrev cX5_judge : ByteArray := prog_7_method_105_code
def yX5_judge : MethodName := ⟨RX5, "judge", "(I)I"⟩
abbrev cX5_image : ByteArray := prog_7_method_106_code
def yX5_image : MethodName := ⟨RX5, "image", "()I"⟩
abbrev cX5_undo : ByteArray := prog_7_method_107_code
def yX5_undo : MethodName := ⟨RX5, "undo", "()I"⟩
abbrev cX5_tear : ByteArray := prog_7_method_108_code
def yX5_tear : MethodName := ⟨RX5, "tear", "()I"⟩
abbrev cX5_count : ByteArray := prog_7_method_109_code
def yX5_count : MethodName := ⟨RX5, "count", "(I)I"⟩
abbrev cX5_status : ByteArray := prog_7_method_110_code
def yX5_status : MethodName := ⟨RX5, "status", "(I)I"⟩
def RJ6 : String := "java/lang/Integer"
abbrev cJ6_bitCount_0f7a4 : ByteArray := prog_8_method_49_code
def yJ6_bitCount_0f7a4 : MethodName := ⟨RJ6, "bitCount", "(I)I"⟩
def RJ9 : String := "java/lang/Math"
abbrev cJ9_floorMod_7cf53 : ByteArray := prog_9_method_50_code
def yJ9_floorMod_7cf53 : MethodName := ⟨RJ9, "floorMod", "(II)I"⟩
abbrev cJ9_min_7cf53 : ByteArray := prog_9_method_69_code
def yJ9_min_7cf53 : MethodName := ⟨RJ9, "min", "(II)I"⟩
def RJ0 : String := "java/lang/String"
abbrev cJ0_length_8abf5 : ByteArray := prog_10_method_54_code
def yJ0_length_8abf5 : MethodName := ⟨RJ0, "length", "()I"⟩
abbrev cJ0_charAt_5068e : ByteArray := prog_10_method_56_code
def yJ0_charAt_5068e : MethodName := ⟨RJ0, "charAt", "(I)C"⟩
abbrev cJ0_coder_7d493 : ByteArray := prog_10_method_152_code
def yJ0_coder_7d493 : MethodName := ⟨RJ0, "coder", "()B"⟩
abbrev cJ0_isLatin1_aae02 : ByteArray := prog_10_method_154_code
def yJ0_isLatin1_aae02 : MethodName := ⟨RJ0, "isLatin1", "()Z"⟩
abbrev cJ0_checkIndex_df160 : ByteArray := prog_10_method_155_code
def yJ0_checkIndex_df160 : MethodName := ⟨RJ0, "checkIndex", "(II)V"⟩
def RJ1 : String := "java/lang/StringLatin1"
abbrev cJ1_charAt_3b067 : ByteArray := prog_11_method_2_code
def yJ1_charAt_3b067 : MethodName := ⟨RJ1, "charAt", "([BI)C"⟩
def RJ2 : String := "java/lang/StringUTF16"
abbrev cJ2_getChar_3b067 : ByteArray := prog_12_method_5_code
def yJ2_getChar_3b067 : MethodName := ⟨RJ2, "getChar", "([BI)C"⟩
abbrev cJ2_length_9d52b : ByteArray := prog_12_method_6_code
def yJ2_length_9d52b : MethodName := ⟨RJ2, "length", "([B)I"⟩
abbrev cJ2_charAt_3b067 : ByteArray := prog_12_method_83_code
def yJ2_charAt_3b067 : MethodName := ⟨RJ2, "charAt", "([BI)C"⟩
abbrev cJ2_checkIndex_2214a : ByteArray := prog_12_method_91_code
def yJ2_checkIndex_2214a : MethodName := ⟨RJ2, "checkIndex", "(I[B)V"⟩
def RJ10 : String := "java/lang/System"
def RJ3 : String := "jdk/internal/util/Preconditions"
abbrev cJ3_checkIndex_8e157 : ByteArray := prog_14_method_11_code
def yJ3_checkIndex_8e157 : MethodName := ⟨RJ3, "checkIndex", "(IILjava/util/function/BiFunction;)I"⟩
def RL : String := "TollSillsLaw"
abbrev cL_law : ByteArray := code
def yL_law : MethodName := ⟨RL, "law", "([I)Z"⟩
end
section
/-! the pure machine: values (an int, a long, a cell of a group, a String constant), the world (group, cell, place), locals, stack; one instruction; a run; its limit -/
abbrev ts_V : Type := Int32 ⊕ Int64 ⊕ (Nat × Nat) ⊕ Nat
abbrev ts_S : Type := Nat → Nat → Nat → Int32
abbrev ts_L : Type := List (Option ts_V)
abbrev ts_C : Type := Nat × ts_L × List ts_V × ts_S
abbrev ts_A : Type := Option ts_V × ts_S
abbrev ts_E : Type := Nat → List ts_V → ts_S → Option ts_A
abbrev ts_I : Type := Instr × Nat × Nat × List (Nat × Nat)
abbrev ts_K : Type := ts_C → Option ts_A
/-- a group's kind: 0 Quarter, 1 Sheets, 2 Tape, 3 TollSills, 4 the model -/
def ts_kd (g : Nat) : Nat := match g with
  | 0 => 3
  | 1 => 0
  | 2 => 0
  | 3 => 0
  | 4 => 2
  | 5 => 1
  | 6 => 4
  | _ => 9
/-- a kind's fields: a number, or a cell of a group further on -/
def ts_fl (k : Nat) : List (Option (Nat × Nat)) := match k with
  | 0 => [some (0, 1), none, none, none, none, some (0, 2), some (0, 3), some (0, 4), some (0, 5), some (0, 6), none, some (0, 7), some (0, 8), some (0, 9), some (0, 10)]
  | 1 => [some (0, 1), some (0, 2), some (0, 3)]
  | 2 => [some (0, 1), none, none, none, none, none]
  | 3 => [some (1, 0), some (2, 0), some (3, 0), none, some (4, 0), some (5, 0), some (0, 1)]
  | 4 => [some (0, 1), some (0, 2), some (0, 3), none, some (0, 4), some (0, 5), none, none, none, none, none, none, some (0, 6), some (0, 7), none, none, none, some (0, 8), some (0, 9), some (0, 10), some (0, 11)]
  | _ => []
/-- a kind's rows of ints, by cell: how long -/
def ts_al (k : Nat) : List (Option Nat) := match k with
  | 0 => [none, some 6, some 8, some 8, some 8, some 8, some 40, some 6, some 6, some 6, some 10]
  | 1 => [none, some 4, some 4, some 160]
  | 2 => [none, some 120]
  | 3 => [none, some 7]
  | 4 => [none, some 111, some 111, some 111, some 8, some 120, none, some 960, some 4, some 4, some 160, some 40]
  | _ => []
def ts_ck (i : Int32) (n : Nat) (x : Option ts_A) : Option ts_A := if i < 0 ∨ n ≤ i.toNatClampNeg then none else x
def ts_up (σ : ts_S) (g c j : Nat) (x : Int32) : ts_S := va_up σ g (va_up (σ g) c (upd (σ g c) j x))
def ts_o1 (st : List ts_V) (f : Int32 → List ts_V → Option ts_A) : Option ts_A := match st with
  | .inl x :: r => f x r
  | _ => none
def ts_o2 (st : List ts_V) (f : Int32 → Int32 → List ts_V → Option ts_A) : Option ts_A := match st with
  | .inl y :: .inl x :: r => f x y r
  | _ => none
def ts_l1 (st : List ts_V) (f : Int64 → List ts_V → Option ts_A) : Option ts_A := match st with
  | .inr (.inl x) :: r => f x r
  | _ => none
def ts_l2 (st : List ts_V) (f : Int64 → Int64 → List ts_V → Option ts_A) : Option ts_A := match st with
  | .inr (.inl y) :: .inr (.inl x) :: r => f x y r
  | _ => none
/-- a cell on the stack -/
def ts_r1 (st : List ts_V) (f : Nat → Nat → List ts_V → Option ts_A) : Option ts_A := match st with
  | .inr (.inr (.inl (g, c))) :: r => f g c r
  | _ => none
/-- an index, and a cell under it -/
def ts_r2 (st : List ts_V) (f : Int32 → Nat → Nat → List ts_V → Option ts_A) : Option ts_A := match st with
  | .inl i :: .inr (.inr (.inl (g, c))) :: r => f i g c r
  | _ => none
/-- a value, an index, and a cell under it -/
def ts_r3 (st : List ts_V) (f : Int32 → Int32 → Nat → Nat → List ts_V → Option ts_A) : Option ts_A := match st with
  | .inl x :: .inl i :: .inr (.inr (.inl (g, c))) :: r => f x i g c r
  | _ => none
def ts_nl (lo : ts_L) (i : Nat) : Bool := match i with
  | 0 => true
  | j + 1 => match lo[j]? with
    | some (some (.inr (.inl _))) => false
    | _ => true
def ts_sto (lo : ts_L) (i : Nat) (v : ts_V) (f : ts_L → Option ts_A) : Option ts_A := cond (Nat.blt i lo.length && ts_nl lo i) (f (lo.set i (some v))) none
def ts_st2 (lo : ts_L) (i : Nat) (v : ts_V) (f : ts_L → Option ts_A) : Option ts_A := cond (Nat.blt (i + 1) lo.length && ts_nl lo i) (f ((lo.set i (some v)).set (i + 1) none)) none
def ts_li (lo : ts_L) (i : Nat) (f : Int32 → Option ts_A) : Option ts_A := match lo[i]? with
  | some (some (.inl x)) => f x
  | _ => none
def ts_ll (lo : ts_L) (i : Nat) (f : Int64 → Option ts_A) : Option ts_A := match lo[i]? with
  | some (some (.inr (.inl x))) => f x
  | _ => none
def ts_lr (lo : ts_L) (i : Nat) (f : (Nat × Nat) ⊕ Nat → Option ts_A) : Option ts_A := match lo[i]? with
  | some (some (.inr (.inr x))) => f x
  | _ => none
def ts_sw (x : Int32) (d : Nat) (f : Nat → Option ts_A) : List (Nat × Nat) → Option ts_A
  | [] => f d
  | (v, t) :: r => if x = Int32.ofNat v then f t else ts_sw x d f r
/-- how many words a value takes -/
def ts_cat (v : ts_V) : Nat := match v with
  | .inr (.inl _) => 2
  | _ => 1
def ts_sum : List ts_V → Nat
  | [] => 0
  | v :: r => ts_cat v + ts_sum r
def ts_an (k c : Nat) (f : Nat → Option ts_A) : Option ts_A := match (ts_al k)[c]? with
  | some (some n) => f n
  | _ => none
def ts_gf (σ : ts_S) (g b : Nat) (o : Option (Option (Nat × Nat))) (f : ts_V → Option ts_A) : Option ts_A := match o with
  | some none => f (.inl (σ g 0 b))
  | some (some (dg, c)) => f (.inr (.inr (.inl (g + dg, c))))
  | none => none
def ts_pf (o : Option (Option (Nat × Nat))) (x : Option ts_A) : Option ts_A := match o with
  | some none => x
  | _ => none
/-- the receiver's kind: 0 to 4 an own class, 8 a String, 9 none asked -/
def ts_rc (t : Nat) (as : List ts_V) : Bool := match as with
  | .inr (.inr (.inl (g, c))) :: _ => (c == 0 && (ts_kd g == t)) || t == 9
  | .inr (.inr (.inr j)) :: _ => (t == 8 && Nat.blt j 13) || t == 9
  | _ => t == 9
def ts_ac (st : List ts_V) (σ : ts_S) (f : List ts_V → ts_S → Option ts_A) : Option ts_A := match st with
  | .inl n :: .inl dp :: .inr (.inr (.inl (g1, c1))) :: .inl sp :: .inr (.inr (.inl (g0, c0))) :: r =>
    ts_an (ts_kd g0) c0 fun n0 => ts_an (ts_kd g1) c1 fun n1 =>
      if sp < 0 ∨ dp < 0 ∨ n < 0 ∨ n0 < sp.toNatClampNeg + n.toNatClampNeg ∨ n1 < dp.toNatClampNeg + n.toNatClampNeg then none
      else f r (va_up σ g1 (va_up (σ g1) c1 (va_cpy (σ g0 c0) (σ g1 c1) sp.toNatClampNeg dp.toNatClampNeg n.toNatClampNeg)))
  | _ => none
def ts_psh (r : Option ts_V) (st : List ts_V) : List ts_V := match r with
  | some v => v :: st
  | none => st
/-- locals that are forgotten -/
def ts_fg (lo : ts_L) : List (Nat × Nat) → ts_L
  | [] => lo
  | (j, _) :: r => ts_fg (lo.set j none) r
/-- names for what is used more than once -/
def ts_nw (s : ts_S) (f : ts_S → Option ts_A) : Option ts_A := f s
def ts_ni (x : Int32) (f : Int32 → Option ts_A) : Option ts_A := f x
def ts_nj (x : Int64) (f : Int64 → Option ts_A) : Option ts_A := f x
def ts_cpy (σ : ts_S) (n0 n1 g0 c0 : Nat) (sp : Int32) (g1 c1 : Nat) (dp n : Int32) (f : ts_S → Option ts_A) : Option ts_A :=
  if sp < 0 ∨ dp < 0 ∨ n < 0 ∨ n0 < sp.toNatClampNeg + n.toNatClampNeg ∨ n1 < dp.toNatClampNeg + n.toNatClampNeg then none
  else f (va_up σ g1 (va_up (σ g1) c1 (va_cpy (σ g0 c0) (σ g1 c1) sp.toNatClampNeg dp.toNatClampNeg n.toNatClampNeg)))
/-- what a callee answered: an int, nothing, a long, a String constant -/
def ts_bi (o : Option ts_A) (f : Int32 → ts_S → Option ts_A) : Option ts_A := match o with
  | some (some (.inl x), σ) => f x σ
  | _ => none
def ts_bv (o : Option ts_A) (f : ts_S → Option ts_A) : Option ts_A := match o with
  | some (none, σ) => f σ
  | _ => none
def ts_bl (o : Option ts_A) (f : Int64 → ts_S → Option ts_A) : Option ts_A := match o with
  | some (some (.inr (.inl x)), σ) => f x σ
  | _ => none
def ts_bs (o : Option ts_A) (f : Nat → ts_S → Option ts_A) : Option ts_A := match o with
  | some (some (.inr (.inr (.inr j))), σ) => f j σ
  | _ => none
def ts_bd (u : Nat) (o : Option ts_A) (rest : List ts_V) (f : List ts_V → ts_S → Option ts_A) : Option ts_A := match u with
  | 0 => ts_bi o fun x σ => f (.inl x :: rest) σ
  | 1 => ts_bv o fun σ => f rest σ
  | 2 => ts_bl o fun x σ => f (.inr (.inl x) :: rest) σ
  | _ => ts_bs o fun j σ => f (.inr (.inr (.inr j)) :: rest) σ
/-- one instruction: i.2.1, i.2.2.1, i.2.2.2 are what the tables know of it -/
def ts_st (E : ts_E) (i : ts_I) (pc : Nat) (lo : ts_L) (st : List ts_V) (σ : ts_S) (k : ts_K) : Option ts_A := match i.1 with
  | .iconst _ => k (pc + 1, lo, .inl (Int32.ofNat i.2.1) :: st, σ)
  | .bipush _ => k (pc + 2, lo, .inl (Int32.ofNat i.2.1) :: st, σ)
  | .sipush _ => k (pc + 3, lo, .inl (Int32.ofNat i.2.1) :: st, σ)
  | .ldc _ => cond (i.2.2.1 == 0) (k (pc + 2, lo, .inl (Int32.ofNat i.2.1) :: st, σ)) (k (pc + 2, lo, .inr (.inr (.inr i.2.1)) :: st, σ))
  | .ldc_w _ => cond (i.2.2.1 == 0) (k (pc + 3, lo, .inl (Int32.ofNat i.2.1) :: st, σ)) (k (pc + 3, lo, .inr (.inr (.inr i.2.1)) :: st, σ))
  | .lconst _ => k (pc + 1, lo, .inr (.inl (Int64.ofNat i.2.1)) :: st, σ)
  | .iload_n _ => ts_li lo i.2.1 fun x => k (pc + 1, lo, .inl x :: st, σ)
  | .iload _ => ts_li lo i.2.1 fun x => k (pc + 2, lo, .inl x :: st, σ)
  | .lload_n _ => ts_ll lo i.2.1 fun x => k (pc + 1, lo, .inr (.inl x) :: st, σ)
  | .lload _ => ts_ll lo i.2.1 fun x => k (pc + 2, lo, .inr (.inl x) :: st, σ)
  | .aload_n _ => ts_lr lo i.2.1 fun x => k (pc + 1, lo, .inr (.inr x) :: st, σ)
  | .aload _ => ts_lr lo i.2.1 fun x => k (pc + 2, lo, .inr (.inr x) :: st, σ)
  | .istore_n _ => ts_o1 st fun x r => ts_sto lo i.2.1 (.inl x) fun lo' => k (pc + 1, lo', r, σ)
  | .istore _ => ts_o1 st fun x r => ts_sto lo i.2.1 (.inl x) fun lo' => k (pc + 2, lo', r, σ)
  | .lstore_n _ => ts_l1 st fun x r => ts_st2 lo i.2.1 (.inr (.inl x)) fun lo' => k (pc + 1, lo', r, σ)
  | .lstore _ => ts_l1 st fun x r => ts_st2 lo i.2.1 (.inr (.inl x)) fun lo' => k (pc + 2, lo', r, σ)
  | .iinc _ _ => ts_li lo i.2.1 fun x => ts_sto lo i.2.1 (.inl (x + Int32.ofNat i.2.2.1)) fun lo' => k (pc + 3, lo', st, σ)
  | .iadd => ts_o2 st fun x y r => k (pc + 1, lo, .inl (x + y) :: r, σ)
  | .isub => ts_o2 st fun x y r => k (pc + 1, lo, .inl (x - y) :: r, σ)
  | .imul => ts_o2 st fun x y r => k (pc + 1, lo, .inl (x * y) :: r, σ)
  | .iand => ts_o2 st fun x y r => k (pc + 1, lo, .inl (x &&& y) :: r, σ)
  | .ior => ts_o2 st fun x y r => k (pc + 1, lo, .inl (x ||| y) :: r, σ)
  | .ixor => ts_o2 st fun x y r => k (pc + 1, lo, .inl (x ^^^ y) :: r, σ)
  | .ishl => ts_o2 st fun x y r => k (pc + 1, lo, .inl (x <<< (y &&& 31)) :: r, σ)
  | .ishr => ts_o2 st fun x y r => k (pc + 1, lo, .inl (x >>> (y &&& 31)) :: r, σ)
  | .iushr => ts_o2 st fun x y r => k (pc + 1, lo, .inl ((x.toUInt32 >>> (y.toUInt32 &&& Int32.toUInt32 31)).toInt32) :: r, σ)
  | .idiv => ts_o2 st fun x y r => if y = 0 then none else k (pc + 1, lo, .inl (x / y) :: r, σ)
  | .irem => ts_o2 st fun x y r => if y = 0 then none else k (pc + 1, lo, .inl (x - x / y * y) :: r, σ)
  | .i2l => ts_o1 st fun x r => k (pc + 1, lo, .inr (.inl x.toInt64) :: r, σ)
  | .i2b => ts_o1 st fun x r => k (pc + 1, lo, .inl x.toInt8.toInt32 :: r, σ)
  | .i2s => ts_o1 st fun x r => k (pc + 1, lo, .inl x.toInt16.toInt32 :: r, σ)
  | .ladd => ts_l2 st fun x y r => k (pc + 1, lo, .inr (.inl (x + y)) :: r, σ)
  | .lmul => ts_l2 st fun x y r => k (pc + 1, lo, .inr (.inl (x * y)) :: r, σ)
  | .lcmp => ts_l2 st fun x y r => k (pc + 1, lo, .inl (lg_cmp x y) :: r, σ)
  | .dup => match st with
    | v :: r => cond (ts_cat v == 1) (k (pc + 1, lo, v :: v :: r, σ)) none
    | _ => none
  | .dup2 => match st with
    | v :: w :: r => cond (ts_cat v == 1 && ts_cat w == 1) (k (pc + 1, lo, v :: w :: v :: w :: r, σ)) none
    | _ => none
  | .pop => match st with
    | v :: r => cond (ts_cat v == 1) (k (pc + 1, lo, r, σ)) none
    | _ => none
  | .ifCond .eq _ => ts_o1 st fun x r => if x = 0 then k (i.2.1, lo, r, σ) else k (pc + 3, lo, r, σ)
  | .ifCond .ne _ => ts_o1 st fun x r => if x = 0 then k (pc + 3, lo, r, σ) else k (i.2.1, lo, r, σ)
  | .ifCond .lt _ => ts_o1 st fun x r => if x < 0 then k (i.2.1, lo, r, σ) else k (pc + 3, lo, r, σ)
  | .ifCond .ge _ => ts_o1 st fun x r => if 0 ≤ x then k (i.2.1, lo, r, σ) else k (pc + 3, lo, r, σ)
  | .ifCond .gt _ => ts_o1 st fun x r => if 0 < x then k (i.2.1, lo, r, σ) else k (pc + 3, lo, r, σ)
  | .ifCond .le _ => ts_o1 st fun x r => if x ≤ 0 then k (i.2.1, lo, r, σ) else k (pc + 3, lo, r, σ)
  | .if_icmp .eq _ => ts_o2 st fun x y r => if x = y then k (i.2.1, lo, r, σ) else k (pc + 3, lo, r, σ)
  | .if_icmp .ne _ => ts_o2 st fun x y r => if x = y then k (pc + 3, lo, r, σ) else k (i.2.1, lo, r, σ)
  | .if_icmp .lt _ => ts_o2 st fun x y r => if x < y then k (i.2.1, lo, r, σ) else k (pc + 3, lo, r, σ)
  | .if_icmp .ge _ => ts_o2 st fun x y r => if y ≤ x then k (i.2.1, lo, r, σ) else k (pc + 3, lo, r, σ)
  | .if_icmp .gt _ => ts_o2 st fun x y r => if y < x then k (i.2.1, lo, r, σ) else k (pc + 3, lo, r, σ)
  | .if_icmp .le _ => ts_o2 st fun x y r => if x ≤ y then k (i.2.1, lo, r, σ) else k (pc + 3, lo, r, σ)
  | .goto _ => k (i.2.1, ts_fg lo i.2.2.2, st, σ)
  | .tableswitch _ _ _ _ => ts_o1 st fun x r => ts_sw x i.2.1 (fun t => k (t, lo, r, σ)) i.2.2.2
  | .lookupswitch _ _ => ts_o1 st fun x r => ts_sw x i.2.1 (fun t => k (t, lo, r, σ)) i.2.2.2
  | .getfield _ => ts_r1 st fun g c r => cond (c == 0 && ts_kd g == i.2.1) (ts_gf σ g i.2.2.1 ((ts_fl i.2.1)[i.2.2.1]?) fun v => k (pc + 3, lo, v :: r, σ)) none
  | .putfield _ => match st with
    | .inl x :: .inr (.inr (.inl (g, c))) :: r => cond (c == 0 && ts_kd g == i.2.1) (ts_pf ((ts_fl i.2.1)[i.2.2.1]?) (match i.2.2.2 with
      | [(_, 0)] => k (pc + 3, lo, r, ts_up σ g 0 i.2.2.1 x)
      | _ => if x = 0 ∨ x = 1 then k (pc + 3, lo, r, ts_up σ g 0 i.2.2.1 x) else none)) none
    | _ => none
  | .iaload => ts_r2 st fun j g c r => ts_an (ts_kd g) c fun n => ts_ck j n (k (pc + 1, lo, .inl (σ g c j.toNatClampNeg) :: r, σ))
  | .iastore => ts_r3 st fun x j g c r => ts_an (ts_kd g) c fun n => ts_ck j n (k (pc + 1, lo, r, ts_up σ g c j.toNatClampNeg x))
  | .aaload => ts_r2 st fun j g c r => cond (g == 6 && c == 6) (ts_ck j 7 (k (pc + 1, lo, .inr (.inr (.inr j.toNatClampNeg)) :: r, σ))) none
  | .arraylength => ts_r1 st fun g c r => match (ts_al (ts_kd g))[c]? with
    | some (some n) => k (pc + 1, lo, .inl (Int32.ofNat n) :: r, σ)
    | _ => cond (g == 6 && c == 6) (k (pc + 1, lo, .inl 7 :: r, σ)) none
  | .invokevirtual _ => match i.2.2.2 with
    | [(_, t), (u, _)] => cond (Nat.ble i.2.2.1 st.length && (Nat.ble (ts_sum (st.drop i.2.2.1)) 8 && ts_rc t (st.take i.2.2.1).reverse)) (ts_bd u (E i.2.1 (st.take i.2.2.1).reverse σ) (st.drop i.2.2.1) fun r σ' => k (pc + 3, lo, r, σ')) none
    | _ => none
  | .invokestatic _ => match i.2.2.2 with
    | [(_, t), (u, _)] => cond (t == 7) (ts_ac st σ fun r σ' => cond (Nat.ble (ts_sum r) 8) (k (pc + 3, lo, r, σ')) none)
      (cond (Nat.ble i.2.2.1 st.length && Nat.ble (ts_sum (st.drop i.2.2.1)) 8) (ts_bd u (E i.2.1 (st.take i.2.2.1).reverse σ) (st.drop i.2.2.1) fun r σ' => k (pc + 3, lo, r, σ')) none)
    | _ => none
  | .ireturn => match st with
    | [.inl x] => cond (i.2.1 == 0) (some (some (.inl x), σ)) (if x = 0 ∨ x = 1 then some (some (.inl x), σ) else none)
    | _ => none
  | .lreturn => match st with
    | [.inr (.inl x)] => some (some (.inr (.inl x)), σ)
    | _ => none
  | .areturn => match st with
    | [.inr (.inr x)] => some (some (.inr (.inr x)), σ)
    | _ => none
  | .return_ => match st with
    | [] => some (none, σ)
    | _ => none
  | _ => none
def ts_stp (E : ts_E) (tb : List (Option ts_I)) (c : ts_C) (k : ts_K) : Option ts_A := match tb[c.1]? with
  | some (some i) => ts_st E i c.1 c.2.1 c.2.2.1 c.2.2.2 k
  | _ => none
def ts_run (E : ts_E) (tb : List (Option ts_I)) : Nat → ts_K
  | 0, _ => none
  | n + 1, c => ts_stp E tb c (ts_run E tb n)
end
section
/-! a step asks its continuation at one place at most; runs grow; the limit is a fixed point -/
def ts_one (F : ts_K → Option ts_A) : Prop := (∃ a, ∀ k, F k = a) ∨ ∃ c, ∀ k, F k = k c
theorem one_k (c : ts_C) : ts_one (fun k => k c) := Or.inr ⟨c, fun _ => rfl⟩
theorem one_c (a : Option ts_A) : ts_one (fun _ => a) := Or.inl ⟨a, fun _ => rfl⟩
theorem one_if {p : Prop} [Decidable p] {F G : ts_K → Option ts_A} (hF : ts_one F) (hG : ts_one G) : ts_one (fun k => if p then F k else G k) := by
  by_cases h : p
  · simp only [if_pos h]; exact hF
  · simp only [if_neg h]; exact hG
theorem one_cond {b : Bool} {F G : ts_K → Option ts_A} (hF : ts_one F) (hG : ts_one G) : ts_one (fun k => cond b (F k) (G k)) := by
  cases b
  · exact hG
  · exact hF
theorem one_bind {o : Option ts_A} {F : ts_A → ts_K → Option ts_A} (hF : ∀ a, ts_one (F a)) : ts_one (fun k => o.bind (fun a => F a k)) := by
  cases o with
  | none => exact one_c none
  | some a => exact hF a
theorem one_bd {u : Nat} {o : Option ts_A} {rest : List ts_V} {F : ts_K → List ts_V → ts_S → Option ts_A} (hF : ∀ r s, ts_one (fun k => F k r s)) : ts_one (fun k => ts_bd u o rest (F k)) := by
  unfold ts_bd
  split
  · unfold ts_bi; split
    · exact hF _ _
    · exact one_c none
  · unfold ts_bv; split
    · exact hF _ _
    · exact one_c none
  · unfold ts_bl; split
    · exact hF _ _
    · exact one_c none
  · unfold ts_bs; split
    · exact hF _ _
    · exact one_c none
theorem one_ck {i : Int32} {n : Nat} {F : ts_K → Option ts_A} (hF : ts_one F) : ts_one (fun k => ts_ck i n (F k)) := one_if (one_c none) hF
theorem one_o1 {st : List ts_V} {F : ts_K → Int32 → List ts_V → Option ts_A} (hF : ∀ x r, ts_one (fun k => F k x r)) : ts_one (fun k => ts_o1 st (F k)) := by
  unfold ts_o1
  split
  · exact hF _ _
  · exact one_c none
theorem one_o2 {st : List ts_V} {F : ts_K → Int32 → Int32 → List ts_V → Option ts_A} (hF : ∀ x y r, ts_one (fun k => F k x y r)) : ts_one (fun k => ts_o2 st (F k)) := by
  unfold ts_o2
  split
  · exact hF _ _ _
  · exact one_c none
theorem one_l1 {st : List ts_V} {F : ts_K → Int64 → List ts_V → Option ts_A} (hF : ∀ x r, ts_one (fun k => F k x r)) : ts_one (fun k => ts_l1 st (F k)) := by
  unfold ts_l1
  split
  · exact hF _ _
  · exact one_c none
theorem one_l2 {st : List ts_V} {F : ts_K → Int64 → Int64 → List ts_V → Option ts_A} (hF : ∀ x y r, ts_one (fun k => F k x y r)) : ts_one (fun k => ts_l2 st (F k)) := by
  unfold ts_l2
  split
  · exact hF _ _ _
  · exact one_c none
theorem one_r1 {st : List ts_V} {F : ts_K → Nat → Nat → List ts_V → Option ts_A} (hF : ∀ g c r, ts_one (fun k => F k g c r)) : ts_one (fun k => ts_r1 st (F k)) := by
  unfold ts_r1
  split
  · exact hF _ _ _
  · exact one_c none
theorem one_r2 {st : List ts_V} {F : ts_K → Int32 → Nat → Nat → List ts_V → Option ts_A} (hF : ∀ i g c r, ts_one (fun k => F k i g c r)) : ts_one (fun k => ts_r2 st (F k)) := by
  unfold ts_r2
  split
  · exact hF _ _ _ _
  · exact one_c none
theorem one_r3 {st : List ts_V} {F : ts_K → Int32 → Int32 → Nat → Nat → List ts_V → Option ts_A} (hF : ∀ x i g c r, ts_one (fun k => F k x i g c r)) : ts_one (fun k => ts_r3 st (F k)) := by
  unfold ts_r3
  split
  · exact hF _ _ _ _ _
  · exact one_c none
theorem one_li {lo : ts_L} {i : Nat} {F : ts_K → Int32 → Option ts_A} (hF : ∀ x, ts_one (fun k => F k x)) : ts_one (fun k => ts_li lo i (F k)) := by
  unfold ts_li
  split
  · exact hF _
  · exact one_c none
theorem one_ll {lo : ts_L} {i : Nat} {F : ts_K → Int64 → Option ts_A} (hF : ∀ x, ts_one (fun k => F k x)) : ts_one (fun k => ts_ll lo i (F k)) := by
  unfold ts_ll
  split
  · exact hF _
  · exact one_c none
theorem one_lr {lo : ts_L} {i : Nat} {F : ts_K → (Nat × Nat) ⊕ Nat → Option ts_A} (hF : ∀ x, ts_one (fun k => F k x)) : ts_one (fun k => ts_lr lo i (F k)) := by
  unfold ts_lr
  split
  · exact hF _
  · exact one_c none
theorem one_an {a c : Nat} {F : ts_K → Nat → Option ts_A} (hF : ∀ x, ts_one (fun k => F k x)) : ts_one (fun k => ts_an a c (F k)) := by
  unfold ts_an
  split
  · exact hF _
  · exact one_c none
theorem one_sto {lo : ts_L} {i : Nat} {v : ts_V} {F : ts_K → ts_L → Option ts_A} (hF : ∀ x, ts_one (fun k => F k x)) : ts_one (fun k => ts_sto lo i v (F k)) := one_cond (hF _) (one_c none)
theorem one_st2 {lo : ts_L} {i : Nat} {v : ts_V} {F : ts_K → ts_L → Option ts_A} (hF : ∀ x, ts_one (fun k => F k x)) : ts_one (fun k => ts_st2 lo i v (F k)) := one_cond (hF _) (one_c none)
theorem one_gf {σ : ts_S} {g b : Nat} {o : Option (Option (Nat × Nat))} {F : ts_K → ts_V → Option ts_A} (hF : ∀ x, ts_one (fun k => F k x)) : ts_one (fun k => ts_gf σ g b o (F k)) := by
  unfold ts_gf
  split
  · exact hF _
  · exact hF _
  · exact one_c none
theorem one_pf {o : Option (Option (Nat × Nat))} {F : ts_K → Option ts_A} (hF : ts_one F) : ts_one (fun k => ts_pf o (F k)) := by
  unfold ts_pf
  split
  · exact hF
  · exact one_c none
theorem one_sw {x : Int32} {d : Nat} {F : ts_K → Nat → Option ts_A} (hF : ∀ t, ts_one (fun k => F k t)) : ∀ ps : List (Nat × Nat), ts_one (fun k => ts_sw x d (F k) ps)
  | [] => hF d
  | (v, t) :: r => one_if (hF t) (one_sw hF r)
theorem one_ac {st : List ts_V} {σ : ts_S} {F : ts_K → List ts_V → ts_S → Option ts_A} (hF : ∀ r s, ts_one (fun k => F k r s)) : ts_one (fun k => ts_ac st σ (F k)) := by
  unfold ts_ac
  split
  · exact one_an fun n0 => one_an fun n1 => one_if (one_c none) (hF _ _)
  · exact one_c none
set_option maxHeartbeats 4000000 in
theorem ts_st_one (E : ts_E) (i : ts_I) (pc : Nat) (lo : ts_L) (st : List ts_V) (σ : ts_S) : ts_one (fun k => ts_st E i pc lo st σ k) := by
  obtain ⟨i, a, b, ps⟩ := i
  unfold ts_st
  split <;> (try dsimp only) <;> first
    | exact one_k _
    | exact one_c _
    | exact one_cond (one_k _) (one_k _)
    | exact one_li fun x => one_k _
    | exact one_ll fun x => one_k _
    | exact one_lr fun x => one_k _
    | exact one_o1 fun x r => one_k _
    | exact one_o2 fun x y r => one_k _
    | exact one_l2 fun x y r => one_k _
    | exact one_o2 fun x y r => one_if (one_c none) (one_k _)
    | exact one_o1 fun x r => one_if (one_k _) (one_k _)
    | exact one_o2 fun x y r => one_if (one_k _) (one_k _)
    | exact one_o1 fun x r => one_sto fun l => one_k _
    | exact one_l1 fun x r => one_st2 fun l => one_k _
    | exact one_li fun x => one_sto fun l => one_k _
    | exact one_o1 fun x r => one_sw (fun t => one_k _) ps
    | exact one_r1 fun g c r => one_cond (one_gf fun v => one_k _) (one_c none)
    | exact one_r2 fun j g c r => one_an fun n => one_ck (one_k _)
    | exact one_r3 fun x j g c r => one_an fun n => one_ck (one_k _)
    | exact one_r2 fun j g c r => one_cond (one_ck (one_k _)) (one_c none)
    | (split <;> first
        | exact one_c _
        | exact one_cond (one_k _) (one_c none)
        | exact one_cond (one_c _) (one_c _)
        | exact one_cond (one_bd fun r s => one_k _) (one_c none)
        | exact one_cond (one_ac fun r s => one_cond (one_k _) (one_c none)) (one_cond (one_bd fun r s => one_k _) (one_c none))
        | (split <;> first
            | exact one_cond (one_pf (one_k _)) (one_c none)
            | exact one_cond (one_pf (one_if (one_k _) (one_c none))) (one_c none)))
    | (refine one_r1 fun g c r => ?_
       split
       · exact one_k _
       · exact one_cond (one_k _) (one_c none))
theorem ts_stp_one (E : ts_E) (tb : List (Option ts_I)) (c : ts_C) : (∃ a, ∀ k, ts_stp E tb c k = a) ∨ ∃ c', ∀ k, ts_stp E tb c k = k c' := by
  unfold ts_stp
  split
  · exact ts_st_one E _ _ _ _ _
  · exact one_c none
theorem ts_run_up (E : ts_E) (tb : List (Option ts_I)) : ∀ (n : Nat) (c : ts_C) (a : ts_A), ts_run E tb n c = some a → ts_run E tb (n + 1) c = some a
  | 0, _, _, h => by cases h
  | n + 1, c, a, h => by
    show ts_stp E tb c (ts_run E tb (n + 1)) = some a
    have h' : ts_stp E tb c (ts_run E tb n) = some a := h
    rcases ts_stp_one E tb c with ⟨b, hb⟩ | ⟨c', hc⟩
    · rw [hb] at h' ⊢; exact h'
    · rw [hc] at h' ⊢; exact ts_run_up E tb n c' a h'
theorem ts_run_le (E : ts_E) (tb : List (Option ts_I)) {n m : Nat} (h : n ≤ m) {c : ts_C} {a : ts_A} (hn : ts_run E tb n c = some a) : ts_run E tb m c = some a := by
  induction h with
  | refl => exact hn
  | step _ ih => exact ts_run_up E tb _ _ _ ih
noncomputable def ts_R (E : ts_E) (tb : List (Option ts_I)) (c : ts_C) : Option ts_A := @dite _ (∃ n a, ts_run E tb n c = some a) (Classical.propDecidable _) (fun h => ts_run E tb h.choose c) (fun _ => none)
theorem ts_R_spec {E : ts_E} {tb : List (Option ts_I)} {c : ts_C} {a : ts_A} (h : ts_R E tb c = some a) : ∃ n, ts_run E tb n c = some a := by
  unfold ts_R at h
  split at h
  · next hx => exact ⟨_, h⟩
  · cases h
theorem ts_R_of {E : ts_E} {tb : List (Option ts_I)} {c : ts_C} {a : ts_A} {n : Nat} (h : ts_run E tb n c = some a) : ts_R E tb c = some a := by
  unfold ts_R
  have hx : ∃ n a, ts_run E tb n c = some a := ⟨n, a, h⟩
  rw [dif_pos hx]
  obtain ⟨b, hb⟩ := hx.choose_spec
  have h1 := ts_run_le E tb (Nat.le_max_left hx.choose n) hb
  have h2 := ts_run_le E tb (Nat.le_max_right hx.choose n) h
  rw [hb, ← h1, h2]
theorem ts_R_none {E : ts_E} {tb : List (Option ts_I)} {c : ts_C} (h : ∀ n, ts_run E tb n c = none) : ts_R E tb c = none := by
  cases hr : ts_R E tb c with
  | none => rfl
  | some a =>
    obtain ⟨n, hn⟩ := ts_R_spec hr
    rw [h n] at hn
    cases hn
theorem ts_fix (E : ts_E) (tb : List (Option ts_I)) (c : ts_C) : ts_R E tb c = ts_stp E tb c (ts_R E tb) := by
  rcases ts_stp_one E tb c with ⟨b, hb⟩ | ⟨c', hc⟩
  · rw [hb]
    cases b with
    | some a => exact ts_R_of (n := 1) (hb _)
    | none =>
      refine ts_R_none fun n => ?_
      cases n with
      | zero => rfl
      | succ n => exact hb _
  · rw [hc]
    cases hr : ts_R E tb c' with
    | some a =>
      obtain ⟨n, hn⟩ := ts_R_spec hr
      exact ts_R_of (n := n + 1) ((hc _).trans hn)
    | none =>
      refine ts_R_none fun n => ?_
      cases n with
      | zero => rfl
      | succ n =>
        show ts_stp E tb c (ts_run E tb n) = none
        rw [hc]
        cases hn : ts_run E tb n c' with
        | none => rfl
        | some a => rw [ts_R_of hn] at hr; cases hr
/-- unrolled up to the stops -/
noncomputable def ts_un (E : ts_E) (tb : List (Option ts_I)) (sp : List Nat) : Nat → ts_K
  | 0, c => ts_R E tb c
  | n + 1, c => cond (sp.elem c.1) (ts_R E tb c) (ts_stp E tb c (ts_un E tb sp n))
theorem ts_un_eq (E : ts_E) (tb : List (Option ts_I)) (sp : List Nat) : ∀ (n : Nat), ts_un E tb sp n = ts_R E tb
  | 0 => rfl
  | n + 1 => by
    funext c
    show cond (sp.elem c.1) (ts_R E tb c) (ts_stp E tb c (ts_un E tb sp n)) = _
    rw [ts_un_eq E tb sp n, ← ts_fix]
    cases sp.elem c.1 <;> rfl
theorem ts_unf (E : ts_E) (tb : List (Option ts_I)) (sp : List Nat) (n : Nat) (c : ts_C) : ts_R E tb c = ts_stp E tb c (ts_un E tb sp n) := by
  rw [ts_un_eq]; exact ts_fix E tb c
/-- a method's entry -/
def ts_ent (as : List ts_V) (n : Nat) : ts_L := as.map some ++ List.replicate (n - as.length) none
end
section
/-! the world: 53 cells in seven groups; strings; what stays known of the machine -/
/-- the classes' places, the cells' addresses, the strings' and their bytes' addresses, the two array classes, what may change -/
abbrev ts_X : Type := va_G × (Nat → Nat → Nat) × (Nat → Nat) × (Nat → Nat) × ClassId × ClassId × (Nat → Prop)
abbrev ts_vc : List vw_C := [(RX1, TX1, 15), (RX2, TX2, 3), (RX3, TX3, 6), (RX4, TX4, 7), (RX5, TX5, 21)]
def ts_cl : List (Nat × Nat) := [(0, 0), (0, 1), (1, 0), (1, 1), (1, 2), (1, 3), (1, 4), (1, 5), (1, 6), (1, 7), (1, 8), (1, 9), (1, 10), (2, 0), (2, 1), (2, 2), (2, 3), (2, 4), (2, 5), (2, 6), (2, 7), (2, 8), (2, 9), (2, 10), (3, 0), (3, 1), (3, 2), (3, 3), (3, 4), (3, 5), (3, 6), (3, 7), (3, 8), (3, 9), (3, 10), (4, 0), (4, 1), (5, 0), (5, 1), (5, 2), (5, 3), (6, 0), (6, 1), (6, 2), (6, 3), (6, 4), (6, 5), (6, 6), (6, 7), (6, 8), (6, 9), (6, 10), (6, 11)]
def ts_tr (X : ts_X) (v : ts_V) : Value := match v with
  | .inl x => .int x
  | .inr (.inl x) => .long x
  | .inr (.inr (.inl (g, c))) => .ref (X.2.1 g c)
  | .inr (.inr (.inr k)) => .ref (X.2.2.1 k)
def ts_f1 (X : ts_X) (σ : ts_S) (g : Nat) (q : Option (Nat × Nat) × Nat) : Value := match q.1 with
  | none => .int (σ g 0 q.2)
  | some (dg, c) => .ref (X.2.1 (g + dg) c)
def ts_fs (X : ts_X) (σ : ts_S) (g : Nat) : List Value := (ts_fl (ts_kd g)).zipIdx.map (ts_f1 X σ g)
def ts_en (X : ts_X) (σ : ts_S) (g c : Nat) : va_E := match c with
  | 0 => .inr (ts_kd g, ts_fs X σ g)
  | c + 1 => match (ts_al (ts_kd g))[c + 1]? with
    | some (some n) => .inl (X.2.2.2.2.1, n, .inl (σ g (c + 1)))
    | _ => .inl (X.2.2.2.2.2.1, 7, .inr (.inr (.inr (.inr (fun i => some (X.2.2.1 i))))))
def ts_w1 (X : ts_X) (σ : ts_S) (q : Nat × Nat) : Nat × va_E := (X.2.1 q.1 q.2, ts_en X σ q.1 q.2)
def ts_ws (X : ts_X) (σ : ts_S) : va_W := ts_cl.map (ts_w1 X σ)
def ts_tys (X : ts_X) : List (ClassId × FieldType) := [(X.2.2.2.2.1, .int), (X.2.2.2.2.2.1, .object "java/lang/String")]
theorem ts_cl_inj : ∀ i, i < 53 → ∀ j, j < 53 → ts_cl[i]? = ts_cl[j]? → i = j := by decide +kernel
theorem ts_at (X : ts_X) (σ : ts_S) {g c : Nat} (h : (g, c) ∈ ts_cl) : ∃ q : Nat, ts_cl[q]? = some (g, c) ∧ (ts_ws X σ)[q]? = some (X.2.1 g c, ts_en X σ g c) := by
  obtain ⟨q, hq⟩ := List.getElem?_of_mem h
  exact ⟨q, hq, by rw [ts_ws, List.getElem?_map, hq]; rfl⟩
theorem ts_en_cong (X : ts_X) {σ σ' : ts_S} {g c : Nat} (h : σ' g c = σ g c) : ts_en X σ' g c = ts_en X σ g c := by
  cases c with
  | zero =>
    show Sum.inr (ts_kd g, ts_fs X σ' g) = Sum.inr (ts_kd g, ts_fs X σ g)
    have e : ts_f1 X σ' g = ts_f1 X σ g := by
      funext q
      unfold ts_f1
      split
      · rw [h]
      · rfl
    rw [ts_fs, ts_fs, e]
  | succ c => simp only [ts_en, h]
theorem ts_set (X : ts_X) {σ σ' : ts_S} {g c q : Nat} {e : va_E} (hq : ts_cl[q]? = some (g, c)) (he : ts_en X σ' g c = e) (ho : ∀ g' c', ¬ (g' = g ∧ c' = c) → σ' g' c' = σ g' c') : (ts_ws X σ).set q (X.2.1 g c, e) = ts_ws X σ' := by
  apply List.ext_getElem?
  intro j
  rw [List.getElem?_set, ts_ws, ts_ws, List.getElem?_map, List.getElem?_map]
  have hl : q < (ts_cl.map (ts_w1 X σ)).length := by rw [List.length_map]; exact (List.getElem?_eq_some_iff.mp hq).1
  by_cases hj : q = j
  · subst hj
    rw [if_pos rfl, if_pos hl, hq, ← he]; rfl
  · rw [if_neg hj]
    cases hx : ts_cl[j]? with
    | none => rfl
    | some p =>
      have hne : ¬ (p.1 = g ∧ p.2 = c) := by
        intro hp
        have hp' : p = (g, c) := Prod.ext hp.1 hp.2
        subst hp'
        exact hj (ts_cl_inj q (List.getElem?_eq_some_iff.mp hq).1 j (List.getElem?_eq_some_iff.mp hx).1 (hq.trans hx.symm))
      show some (ts_w1 X σ p) = some (ts_w1 X σ' p)
      rw [ts_w1, ts_w1, ts_en_cong X (ho p.1 p.2 hne)]
theorem ts_put_o (σ : ts_S) (g c : Nat) (f : Nat → Int32) : ∀ g' c', ¬ (g' = g ∧ c' = c) → va_up σ g (va_up (σ g) c f) g' c' = σ g' c' := by
  intro g' c' h
  unfold va_up
  by_cases h1 : g' = g
  · subst h1
    rw [if_pos rfl, if_neg (fun h2 => h ⟨rfl, h2⟩)]
  · rw [if_neg h1]
theorem ts_put_s (σ : ts_S) (g c : Nat) (f : Nat → Int32) : va_up σ g (va_up (σ g) c f) g c = f := by
  unfold va_up
  rw [if_pos rfl, if_pos rfl]
theorem ts_cell_row {g c n : Nat} (hg : g < 7) (h : (ts_al (ts_kd g))[c]? = some (some n)) : (g, c) ∈ ts_cl ∧ 0 < c := by
  have hc : c < 12 := by
    have h1 := (List.getElem?_eq_some_iff.mp h).1
    have : ∀ g, g < 7 → (ts_al (ts_kd g)).length ≤ 12 := by decide
    have := this g hg
    omega
  have hall : (List.range 7).all (fun g => (List.range 12).all (fun c => !((ts_al (ts_kd g))[c]?.join).isSome || (decide ((g, c) ∈ ts_cl) && decide (0 < c)))) = true := by decide +kernel
  have h2 := List.all_eq_true.mp (List.all_eq_true.mp hall g (List.mem_range.mpr hg)) c (List.mem_range.mpr hc)
  rw [h] at h2
  simpa using h2
theorem ts_cell_obj {g : Nat} (hg : g < 7) : (g, 0) ∈ ts_cl := by
  have : ∀ g, g < 7 → (g, 0) ∈ ts_cl := by decide
  exact this g hg
theorem ts_en_row (X : ts_X) (σ : ts_S) {g c n : Nat} (h0 : 0 < c) (h : (ts_al (ts_kd g))[c]? = some (some n)) : ts_en X σ g c = .inl (X.2.2.2.2.1, n, .inl (σ g c)) := by
  cases c with
  | zero => cases h0
  | succ c => unfold ts_en; simp only [h]
theorem ts_kd_lt {g a : Nat} (h : ts_kd g = a) (ha : a < 5) : g < 7 := by
  rcases Nat.lt_or_ge g 7 with q | q
  · exact q
  · have : ts_kd g = 9 := by
      unfold ts_kd
      split <;> omega
    omega
theorem ts_fs_at (X : ts_X) (σ : ts_S) {g b : Nat} {o : Option (Nat × Nat)} (h : (ts_fl (ts_kd g))[b]? = some o) : (ts_fs X σ g)[b]? = some (ts_f1 X σ g (o, b)) := by
  rw [ts_fs, List.getElem?_map, List.getElem?_zipIdx, h]
  simp
theorem ts_fs_set (X : ts_X) (σ : ts_S) {g b : Nat} (x : Int32) (h : (ts_fl (ts_kd g))[b]? = some none) : ts_fs X (ts_up σ g 0 b x) g = (ts_fs X σ g).set b (.int x) := by
  apply List.ext_getElem?
  intro j
  rw [List.getElem?_set]
  have hl : b < (ts_fs X σ g).length := by
    have := (List.getElem?_eq_some_iff.mp h).1
    simpa [ts_fs] using this
  cases hj : (ts_fl (ts_kd g))[j]? with
  | none =>
    have h1 : (ts_fs X (ts_up σ g 0 b x) g)[j]? = none := by rw [ts_fs, List.getElem?_map, List.getElem?_zipIdx, hj]; rfl
    have h2 : (ts_fs X σ g)[j]? = none := by rw [ts_fs, List.getElem?_map, List.getElem?_zipIdx, hj]; rfl
    have hne : ¬ b = j := fun e => by subst e; rw [hj] at h; cases h
    rw [h1, if_neg hne, h2]
  | some o =>
    rw [ts_fs_at X _ hj]
    by_cases e : b = j
    · subst e
      rw [h] at hj
      cases hj
      rw [if_pos rfl, if_pos hl]
      show some (Value.int (ts_up σ g 0 b x g 0 b)) = _
      rw [ts_up, ts_put_s, upd, if_pos rfl]
    · rw [if_neg e, ts_fs_at X _ hj]
      unfold ts_f1
      cases o with
      | none =>
        show some (Value.int (ts_up σ g 0 b x g 0 j)) = _
        rw [ts_up, ts_put_s, upd, if_neg (fun h => e h.symm)]
      | some q => rfl
/-! strings -/
def ts_tx : List (List Int32) := [[115, 105, 108, 108], [99, 104, 117, 114, 99, 104], [115, 97, 108, 111, 111, 110], [112, 111, 111, 114], [105, 110, 110], [98, 97, 114, 101], [109, 97, 114, 98, 108, 101], [112, 101, 114, 115, 111, 110], [99, 114, 111, 115, 115], [107, 101, 101, 112, 115], [109, 101, 110, 100, 101, 100], [104, 97, 115], [105, 110]]
def ts_s1 (X : ts_X) (U : State) (H : Heap) (i : Nat) : Prop := va_O "java/lang/String" (X.2.2.1 i) X.2.2.2.2.2.2 U H ∧ va_OF "java/lang/String" "coder" "B" (.int 0) (X.2.2.1 i) X.2.2.2.2.2.2 U H ∧ va_OF "java/lang/String" "value" "[B" (.ref (X.2.2.2.1 i)) (X.2.2.1 i) X.2.2.2.2.2.2 U H ∧ va_T .byte (X.2.2.2.1 i) (ts_tx.getD i []).length (fun j => .int ((ts_tx.getD i []).getD j 0)) X.2.2.2.2.2.2 U H
def ts_sr : List (String × Nat × String × Nat) := [("TollSills$Kinds", 37, "sill", 0), ("TollSills$Kinds", 25, "church", 1), ("TollSills$Kinds", 27, "saloon", 2), ("TollSills$Kinds", 29, "poor", 3), ("TollSills$Kinds", 31, "inn", 4), ("TollSills$Kinds", 33, "bare", 5), ("TollSills$Kinds", 35, "marble", 6), ("TollSills$Tape", 38, "person", 7), ("TollSills$Tape", 47, "cross", 8), ("TollSills$Tape", 68, "keeps", 9), ("TollSills$Tape", 73, "mended", 10), ("TollSills$Tape", 92, "has", 11), ("TollSills$Tape", 96, "in", 12),
  ("TollSillsModel", 27, "sill", 0), ("TollSillsModel", 29, "church", 1), ("TollSillsModel", 31, "saloon", 2), ("TollSillsModel", 33, "poor", 3), ("TollSillsModel", 35, "inn", 4), ("TollSillsModel", 37, "bare", 5), ("TollSillsModel", 39, "marble", 6), ("TollSillsModel", 307, "person", 7), ("TollSillsModel", 312, "cross", 8), ("TollSillsModel", 283, "keeps", 9), ("TollSillsModel", 291, "mended", 10), ("TollSillsModel", 296, "has", 11), ("TollSillsModel", 298, "in", 12)]
abbrev ts_nst : Cond := .methodLinkNest RX1 64 yX4_isBelow RX4
/-- what is known of the machine at a state with a heap, and stays known -/
def ts_Y (X : ts_X) (U : State) (H : Heap) : Prop := va_K X.1 ts_vc (ts_tys X) U ∧ (∀ i, i < 13 → ts_s1 X U H i) ∧ (∀ q ∈ ts_sr, vk_R q.1 q.2.1 q.2.2.1 (X.2.2.1 q.2.2.2) U) ∧ va_Nw ts_nst U ∧ va_Z "java/lang/String" "COMPACT_STRINGS" "Z" (.int 1) X.2.2.2.2.2.2 U H ∧ va_Zq "jdk/internal/util/Preconditions" "SIOOBE_FORMATTER" "Ljava/util/function/BiFunction;" X.2.2.2.2.2.2 U H
theorem ts_Y_to {X : ts_X} {s U : State} {H H1 : Heap} (h : ts_Y X s H) (hW : s.WarmedH U.vm) (hk : ∀ q : Nat, q < H.size → ¬ X.2.2.2.2.2.2 q → H1[q]? = H[q]?) : ts_Y X U H1 := by
  obtain ⟨h1, h2, h3, h4, h5, h6⟩ := h
  refine ⟨va_K.moved hW.alike h1, fun i hi => ?_, fun q hq => (h3 q hq).warm hW, va_Nw.warmM hW h4, (h5.moved hW.alike).kept hk, (h6.moved hW.alike).kept hk⟩
  obtain ⟨a, b, c, d⟩ := h2 i hi
  exact ⟨(a.moved hW.alike).kept hk, (b.moved hW.alike).kept hk, (c.moved hW.alike).kept hk, (d.moved hW.alike).kept hk⟩
theorem ts_Y_call {X : ts_X} {U : State} {g : JFrame} {mk : MethodId} {a : Array Value} (h : ts_Y X U U.heap) : ts_Y X (U.calling g mk a) (U.calling g mk a).heap := by
  obtain ⟨h1, h2, h3, h4, h5, h6⟩ := h
  have al : U.vm.Alike (U.calling g mk a).vm := Vm.Alike.refl U.vm
  refine ⟨va_K.moved al h1, fun i hi => ?_, fun q hq => (h3 q hq).same rfl, va_Nw.same rfl rfl h4, h5.moved al, h6.moved al⟩
  obtain ⟨a, b, c, d⟩ := h2 i hi
  exact ⟨a.moved al, b.moved al, c.moved al, d.moved al⟩
/-! locals -/
def ts_lo (X : ts_X) (nL : Nat) (lo : ts_L) (ls : Array Slot) : Prop := lo.length = nL ∧ ls.size = nL ∧ lv_wf ls ∧ ∀ (j : Nat) (v : ts_V), lo[j]? = some (some v) → ls[j]? = some (.val (ts_tr X v))
def ts_pr (X : ts_X) (lo : ts_L) (j : Nat) : Option (Nat × Value) := match lo[j]? with
  | some (some v) => some (j, ts_tr X v)
  | _ => none
def ts_prs (X : ts_X) (lo : ts_L) : List (Nat × Value) := (List.range lo.length).filterMap (ts_pr X lo)
theorem ts_prs_mem {X : ts_X} {lo : ts_L} {j : Nat} {v : ts_V} (h : lo[j]? = some (some v)) : (j, ts_tr X v) ∈ ts_prs X lo := by
  refine List.mem_filterMap.mpr ⟨j, List.mem_range.mpr (List.getElem?_eq_some_iff.mp h).1, ?_⟩
  unfold ts_pr
  rw [h]
theorem ts_lo_has {X : ts_X} {nL : Nat} {lo : ts_L} {ls : Array Slot} (h : ts_lo X nL lo ls) : lv_has ls nL (ts_prs X lo) := by
  refine ⟨h.2.1, h.2.2.1, fun q hq => ?_⟩
  obtain ⟨j, -, hj⟩ := List.mem_filterMap.mp hq
  unfold ts_pr at hj
  split at hj
  · next v hv => cases hj; exact h.2.2.2 j v hv
  · cases hj
theorem ts_tr_cat (X : ts_X) (v : ts_V) : (ts_tr X v).category = ts_cat v := by
  rcases v with x | x | ⟨g, c⟩ | x <;> rfl
theorem ts_nl_ok {lo : ts_L} {i j : Nat} {v : ts_V} (h : ts_nl lo i = true) (hj : lo[j]? = some (some v)) (e : j + 1 = i) : ts_cat v = 1 := by
  subst e
  unfold ts_nl at h
  rcases v with x | x | ⟨g, c⟩ | x
  · rfl
  · simp [hj] at h
  · rfl
  · rfl
theorem ts_lo_put {X : ts_X} {nL : Nat} {lo : ts_L} {ls ls' : Array Slot} {i : Nat} {v : ts_V} (h : ts_lo X nL lo ls) (hn : ts_nl lo i = true) (h' : lv_has ls' nL ((i, ts_tr X v) :: (ts_prs X lo).filter (fun q => !(q.1 == i) && !(q.1 + 1 == i && q.2.category == 2)))) : ts_lo X nL (lo.set i (some v)) ls' := by
  refine ⟨by rw [List.length_set]; exact h.1, h'.1, h'.2.1, fun j w hj => ?_⟩
  by_cases e : i = j
  · subst e
    rw [List.getElem?_set] at hj
    rw [if_pos rfl] at hj
    split at hj
    · cases hj
      exact h'.2.2 (i, ts_tr X v) List.mem_cons_self
    · cases hj
  · rw [List.getElem?_set, if_neg e] at hj
    refine h'.2.2 (j, ts_tr X w) (List.mem_cons_of_mem _ (List.mem_filter.mpr ⟨ts_prs_mem hj, ?_⟩))
    have c1 : (j == i) = false := by simpa using fun h => e h.symm
    have c2 : (j + 1 == i && (ts_tr X w).category == 2) = false := by
      by_cases q : j + 1 = i
      · rw [ts_tr_cat, ts_nl_ok hn hj q]; simp
      · simp [q]
    show (!(j == i) && !(j + 1 == i && (ts_tr X w).category == 2)) = true
    rw [c1, c2]; rfl
theorem ts_lo_put2 {X : ts_X} {nL : Nat} {lo : ts_L} {ls ls' : Array Slot} {i : Nat} {v : ts_V} (h : ts_lo X nL lo ls) (hn : ts_nl lo i = true) (h' : lv_has ls' nL ((i, ts_tr X v) :: (ts_prs X lo).filter (fun q => !(q.1 == i) && (!(q.1 == i + 1) && !(q.1 + 1 == i && q.2.category == 2))))) : ts_lo X nL ((lo.set i (some v)).set (i + 1) none) ls' := by
  refine ⟨by rw [List.length_set, List.length_set]; exact h.1, h'.1, h'.2.1, fun j w hj => ?_⟩
  rw [List.getElem?_set] at hj
  by_cases e1 : i + 1 = j
  · rw [if_pos e1] at hj
    split at hj <;> cases hj
  · rw [if_neg e1] at hj
    by_cases e : i = j
    · subst e
      rw [List.getElem?_set] at hj
      rw [if_pos rfl] at hj
      split at hj
      · cases hj
        exact h'.2.2 (i, ts_tr X v) List.mem_cons_self
      · cases hj
    · rw [List.getElem?_set, if_neg e] at hj
      refine h'.2.2 (j, ts_tr X w) (List.mem_cons_of_mem _ (List.mem_filter.mpr ⟨ts_prs_mem hj, ?_⟩))
      have c1 : (j == i) = false := by simpa using fun h => e h.symm
      have c3 : (j == i + 1) = false := by simpa using fun h => e1 h.symm
      have c2 : (j + 1 == i && (ts_tr X w).category == 2) = false := by
        by_cases q : j + 1 = i
        · rw [ts_tr_cat, ts_nl_ok hn hj q]; simp
        · simp [q]
      show (!(j == i) && (!(j == i + 1) && !(j + 1 == i && (ts_tr X w).category == 2))) = true
      rw [c1, c2, c3]; rfl
end
section
/-! the pure machine's step is the machine's -/
/-- a method: its name, code, locals, answer, how many parameters, the receiver's kind (9: static) -/
abbrev ts_M : Type := MethodName × ByteArray × Nat × Option FieldType × Nat × Nat
def ts_TB : List Cond := lw_tbl.filter goodWord
def ts_wl (mi : ts_M) : List Cond := .code mi.1 mi.2.1 mi.2.2.1 mi.2.2.2.1 :: ts_TB
def ts_sg : List (List Cond) := [k2_sels lw_privs, tables_1_1, tables_1_2, tables_1_3, tables_1_4, tables_1_5, tables_1_6]
def ts_wd (q : Nat) : Option Cond := match ts_sg[q / 1000]? with
  | some l => l[q % 1000]?
  | none => none
theorem ts_sg_in {l : List Cond} (h : l ∈ ts_sg) : ∀ w ∈ l, w ∈ lw_tbl := by
  intro w hw
  unfold lw_tbl tables_1
  simp only [ts_sg, List.mem_cons, List.not_mem_nil, or_false] at h
  simp only [List.mem_append]
  rcases h with rfl | rfl | rfl | rfl | rfl | rfl | rfl <;> simp [hw]
theorem ts_wd_in {q : Nat} {w : Cond} (h : ts_wd q = some w) : w ∈ lw_tbl := by
  unfold ts_wd at h
  split at h
  · next l hl => exact ts_sg_in (List.mem_of_getElem? hl) w (List.mem_of_getElem? h)
  · cases h
def ts_wx (q : Nat) (w : Cond) : Bool := goodWord w && decide (ts_wd q = some w)
theorem ts_wx_in {q : Nat} {w : Cond} (h : ts_wx q w = true) : w ∈ ts_TB := by
  simp only [ts_wx, Bool.and_eq_true, decide_eq_true_eq] at h
  exact List.mem_filter.mpr ⟨ts_wd_in h.2, h.1⟩
def ts_room (d : Nat) : Room := { frames := d, cells := 0, slots := 0, locals := 39 * d }
def ts_Pr (X : ts_X) (σ : ts_S) (U : State) : Prop := va_P X.1 ts_vc (ts_ws X σ) U.heap ∧ ts_Y X U U.heap
def ts_Po (X : ts_X) (r : Option ts_V) (σ : ts_S) : Array Value → State → Outcome → State → Prop := fun _ st oc t => oc = .returned (r.map (ts_tr X)) ∧ va_P X.1 ts_vc (ts_ws X σ) t.heap ∧ va_F X.2.2.2.2.2.2 st t
/-- a method's contract: from arguments and a world where the pure function answers, it answers so -/
def ts_Met (X : ts_X) (l : Launch) (mi : ts_M) (d : Nat) (S : List ts_V → ts_S → Option ts_A) : Prop := ∀ (as : List ts_V) (σ : ts_S) (r : Option ts_V) (σ' : ts_S), S as σ = some (r, σ') → Met l mi.1 (ts_wl mi) (ts_room d) (va_Pc (as.map (ts_tr X)) (ts_Pr X σ)) (ts_Po X r σ') 0 0 X.2.2.2.2.2.2
def ts_cn (t : Nat) : String := match t with
  | 0 => RX1
  | 1 => RX2
  | 2 => RX3
  | 3 => RX4
  | 4 => RX5
  | _ => "java/lang/String"
/-- the words of a method that is called -/
def ts_mw (mi : ts_M) : Prop := (Cond.code mi.1 mi.2.1 mi.2.2.1 mi.2.2.2.1 ∈ ts_TB ∧ Cond.initialized mi.1.cls ∈ ts_TB) ∧ (mi.1.cls ≠ "java/lang/invoke/MethodHandle" ∧ mi.1.cls ≠ "java/lang/invoke/VarHandle" ∧ (parseMethodDescriptor mi.1.desc).map (fun d => d.parameters.length) = some mi.2.2.2.2.1) ∧ mi.2.2.1 ≤ 20 ∧ ((mi.2.2.2.2.2 = 9 ∧ Cond.static mi.1 ∈ ts_TB) ∨ ((mi.2.2.2.2.2 < 5 ∨ mi.2.2.2.2.2 = 8) ∧ ts_cn mi.2.2.2.2.2 = mi.1.cls ∧ Cond.instanceMethod mi.1 ∈ ts_TB ∧ Cond.selects mi.1.cls mi.1 mi.1 ∈ ts_TB))
/-- a callee, from a room of depth d -/
def ts_Cal (X : ts_X) (l : Launch) (d : Nat) (mi : ts_M) (S : List ts_V → ts_S → Option ts_A) : Prop := ts_mw mi ∧ ∃ d', d' < d ∧ ts_Met X l mi d' S
def ts_Cx (X : ts_X) (p : Program) (s : State) (m : MethodId) (args : Array Value) (meth : Method) (c : Code) (cc : ByteArray) (nL : Nat) (own : String) (Ts : List Cond) : Prop :=
  p.tables.exec = Jvm.exec ∧ c.code = cc ∧ c.maxLocals = nL ∧ s.vm.findClass own = some m.cls ∧ (∀ w ∈ Ts, w.before args s = true) ∧ (∀ w ∈ ts_TB, w ∈ Ts) ∧ ts_Y X s s.heap ∧ (∀ σ, va_D X.2.2.2.2.2.2 (ts_ws X σ)) ∧ meth.locks = false
def ts_VV (X : ts_X) (p : Program) (l : Launch) (e : Env) (R : Room) (s : State) (m : MethodId) (args : Array Value) (below : List Frame) (meth : Method) (c : Code) (nL : Nat) (Q : State → Prop) (f : ts_C) : Prop :=
  ∀ (H : Heap) (locs : List Loc) (ls : Array Slot), va_P X.1 ts_vc (ts_ws X f.2.2.2) H → va_S X.2.2.2.2.2.2 s.heap H locs → ts_lo X nL f.2.1 ls → W p l e R s m args below meth c H locs 0 0 Q (F0 m f.1 ls (f.2.2.1.map (ts_tr X)))
/-! what the shapes of a step say -/
theorem ts_o1_i {st : List ts_V} {f : Int32 → List ts_V → Option ts_A} {a : ts_A} (h : ts_o1 st f = some a) : ∃ x r, st = .inl x :: r ∧ f x r = some a := by
  unfold ts_o1 at h
  split at h
  · exact ⟨_, _, rfl, h⟩
  · cases h
theorem ts_o2_i {st : List ts_V} {f : Int32 → Int32 → List ts_V → Option ts_A} {a : ts_A} (h : ts_o2 st f = some a) : ∃ x y r, st = .inl y :: .inl x :: r ∧ f x y r = some a := by
  unfold ts_o2 at h
  split at h
  · exact ⟨_, _, _, rfl, h⟩
  · cases h
theorem ts_l1_i {st : List ts_V} {f : Int64 → List ts_V → Option ts_A} {a : ts_A} (h : ts_l1 st f = some a) : ∃ x r, st = .inr (.inl x) :: r ∧ f x r = some a := by
  unfold ts_l1 at h
  split at h
  · exact ⟨_, _, rfl, h⟩
  · cases h
theorem ts_l2_i {st : List ts_V} {f : Int64 → Int64 → List ts_V → Option ts_A} {a : ts_A} (h : ts_l2 st f = some a) : ∃ x y r, st = .inr (.inl y) :: .inr (.inl x) :: r ∧ f x y r = some a := by
  unfold ts_l2 at h
  split at h
  · exact ⟨_, _, _, rfl, h⟩
  · cases h
theorem ts_r1_i {st : List ts_V} {f : Nat → Nat → List ts_V → Option ts_A} {a : ts_A} (h : ts_r1 st f = some a) : ∃ g c r, st = .inr (.inr (.inl (g, c))) :: r ∧ f g c r = some a := by
  unfold ts_r1 at h
  split at h
  · exact ⟨_, _, _, rfl, h⟩
  · cases h
theorem ts_r2_i {st : List ts_V} {f : Int32 → Nat → Nat → List ts_V → Option ts_A} {a : ts_A} (h : ts_r2 st f = some a) : ∃ i g c r, st = .inl i :: .inr (.inr (.inl (g, c))) :: r ∧ f i g c r = some a := by
  unfold ts_r2 at h
  split at h
  · exact ⟨_, _, _, _, rfl, h⟩
  · cases h
theorem ts_r3_i {st : List ts_V} {f : Int32 → Int32 → Nat → Nat → List ts_V → Option ts_A} {a : ts_A} (h : ts_r3 st f = some a) : ∃ x i g c r, st = .inl x :: .inl i :: .inr (.inr (.inl (g, c))) :: r ∧ f x i g c r = some a := by
  unfold ts_r3 at h
  split at h
  · exact ⟨_, _, _, _, _, rfl, h⟩
  · cases h
theorem ts_li_i {lo : ts_L} {i : Nat} {f : Int32 → Option ts_A} {a : ts_A} (h : ts_li lo i f = some a) : ∃ x, lo[i]? = some (some (.inl x)) ∧ f x = some a := by
  unfold ts_li at h
  split at h
  · next x hx => exact ⟨x, hx, h⟩
  · cases h
theorem ts_ll_i {lo : ts_L} {i : Nat} {f : Int64 → Option ts_A} {a : ts_A} (h : ts_ll lo i f = some a) : ∃ x, lo[i]? = some (some (.inr (.inl x))) ∧ f x = some a := by
  unfold ts_ll at h
  split at h
  · next x hx => exact ⟨x, hx, h⟩
  · cases h
theorem ts_lr_i {lo : ts_L} {i : Nat} {f : (Nat × Nat) ⊕ Nat → Option ts_A} {a : ts_A} (h : ts_lr lo i f = some a) : ∃ x, lo[i]? = some (some (.inr (.inr x))) ∧ f x = some a := by
  unfold ts_lr at h
  split at h
  · next x hx => exact ⟨x, hx, h⟩
  · cases h
theorem ts_an_i {k c : Nat} {f : Nat → Option ts_A} {a : ts_A} (h : ts_an k c f = some a) : ∃ n, (ts_al k)[c]? = some (some n) ∧ f n = some a := by
  unfold ts_an at h
  split at h
  · next n hn => exact ⟨n, hn, h⟩
  · cases h
theorem ts_ck_i {i : Int32} {n : Nat} {x : Option ts_A} {a : ts_A} (h : ts_ck i n x = some a) : vp_in i n ∧ x = some a := by
  unfold ts_ck at h
  split at h
  · cases h
  · next hn => exact ⟨hn, h⟩
theorem ts_cond_i {b : Bool} {x : Option ts_A} {a : ts_A} (h : cond b x none = some a) : b = true ∧ x = some a := by
  cases b
  · cases h
  · exact ⟨rfl, h⟩
theorem ts_sto_i {lo : ts_L} {i : Nat} {v : ts_V} {f : ts_L → Option ts_A} {a : ts_A} (h : ts_sto lo i v f = some a) : i < lo.length ∧ ts_nl lo i = true ∧ f (lo.set i (some v)) = some a := by
  obtain ⟨h1, h2⟩ := ts_cond_i h
  simp only [Bool.and_eq_true] at h1
  exact ⟨Nat.le_of_ble_eq_true h1.1, h1.2, h2⟩
theorem ts_st2_i {lo : ts_L} {i : Nat} {v : ts_V} {f : ts_L → Option ts_A} {a : ts_A} (h : ts_st2 lo i v f = some a) : i + 1 < lo.length ∧ ts_nl lo i = true ∧ f ((lo.set i (some v)).set (i + 1) none) = some a := by
  obtain ⟨h1, h2⟩ := ts_cond_i h
  simp only [Bool.and_eq_true] at h1
  exact ⟨Nat.le_of_ble_eq_true h1.1, h1.2, h2⟩
theorem ts_gf_i {σ : ts_S} {g b : Nat} {o : Option (Option (Nat × Nat))} {f : ts_V → Option ts_A} {a : ts_A} (h : ts_gf σ g b o f = some a) : (o = some none ∧ f (.inl (σ g 0 b)) = some a) ∨ ∃ dg c, o = some (some (dg, c)) ∧ f (.inr (.inr (.inl (g + dg, c)))) = some a := by
  unfold ts_gf at h
  split at h
  · exact Or.inl ⟨rfl, h⟩
  · exact Or.inr ⟨_, _, rfl, h⟩
  · cases h
theorem ts_pf_i {o : Option (Option (Nat × Nat))} {x : Option ts_A} {a : ts_A} (h : ts_pf o x = some a) : o = some none ∧ x = some a := by
  unfold ts_pf at h
  split at h
  · exact ⟨rfl, h⟩
  · cases h
theorem ts_lo_no {X : ts_X} {nL : Nat} {lo : ts_L} {ls : Array Slot} {i : Nat} (h : ts_lo X nL lo ls) : ts_lo X nL (lo.set i none) ls := by
  refine ⟨by rw [List.length_set]; exact h.1, h.2.1, h.2.2.1, fun j v hj => ?_⟩
  rw [List.getElem?_set] at hj
  split at hj
  · split at hj <;> cases hj
  · exact h.2.2.2 j v hj
theorem ts_lo_fg {X : ts_X} {nL : Nat} {ls : Array Slot} : ∀ (ps : List (Nat × Nat)) {lo : ts_L}, ts_lo X nL lo ls → ts_lo X nL (ts_fg lo ps) ls
  | [], _, h => h
  | (_, _) :: r, _, h => ts_lo_fg r (ts_lo_no h)
section TSK
variable {X : ts_X} {p : Program} {l : Launch} {e : Env} {R : Room} {s : State} {m : MethodId} {args : Array Value} {below : List Frame} {meth : Method} {c : Code} {cc : ByteArray} {nL : Nat} {own : String} {Ts : List Cond} {Q : State → Prop} {pc : Nat} {lo : ts_L} {st : List ts_V} {σ : ts_S} {k : ts_K} {res : ts_A}

theorem tk_iconst (C : ts_Cx X p s m args meth c cc nL own Ts) (hk : ∀ f, k f = some res → ts_VV X p l e R s m args below meth c nL Q f) {n : Int} {v : Int32} (hd : decode cc pc = .ok (.iconst n, 1)) (hv : Int32.ofInt n = v) (h : k (pc + 1, lo, .inl v :: st, σ) = some res) : ts_VV X p l e R s m args below meth c nL Q (pc, lo, st, σ) :=
  fun H locs ls hP hS hL => lv_iconst C.1 C.2.1 hd hv (hk _ h H locs ls hP hS hL)
theorem tk_bipush (C : ts_Cx X p s m args meth c cc nL own Ts) (hk : ∀ f, k f = some res → ts_VV X p l e R s m args below meth c nL Q f) {n : Int} {v : Int32} (hd : decode cc pc = .ok (.bipush n, 2)) (hv : (Int8.ofInt n).toInt32 = v) (h : k (pc + 2, lo, .inl v :: st, σ) = some res) : ts_VV X p l e R s m args below meth c nL Q (pc, lo, st, σ) :=
  fun H locs ls hP hS hL => lv_bipush C.1 C.2.1 hd hv (hk _ h H locs ls hP hS hL)
theorem tk_sipush (C : ts_Cx X p s m args meth c cc nL own Ts) (hk : ∀ f, k f = some res → ts_VV X p l e R s m args below meth c nL Q f) {n : Int} {v : Int32} (hd : decode cc pc = .ok (.sipush n, 3)) (hv : (Int16.ofInt n).toInt32 = v) (h : k (pc + 3, lo, .inl v :: st, σ) = some res) : ts_VV X p l e R s m args below meth c nL Q (pc, lo, st, σ) :=
  fun H locs ls hP hS hL => lv_sipush C.1 C.2.1 hd hv (hk _ h H locs ls hP hS hL)
theorem tk_lconst (C : ts_Cx X p s m args meth c cc nL own Ts) (hk : ∀ f, k f = some res → ts_VV X p l e R s m args below meth c nL Q f) {n : Fin 2} {v : Int64} (hd : decode cc pc = .ok (.lconst n, 1)) (hv : Int64.ofNat (n : Nat) = v) (h : k (pc + 1, lo, .inr (.inl v) :: st, σ) = some res) : ts_VV X p l e R s m args below meth c nL Q (pc, lo, st, σ) :=
  fun H locs ls hP hS hL => lv_lconst C.1 C.2.1 hd hv (hk _ h H locs ls hP hS hL)
theorem tk_ldc (C : ts_Cx X p s m args meth c cc nL own Ts) (hk : ∀ f, k f = some res → ts_VV X p l e R s m args below meth c nL Q f) {j : Nat} {v : Int32} (hd : decode cc pc = .ok (.ldc j, 2)) (hw : Cond.constant own j v ∈ ts_TB) (h : k (pc + 2, lo, .inl v :: st, σ) = some res) : ts_VV X p l e R s m args below meth c nL Q (pc, lo, st, σ) :=
  fun H locs ls hP hS hL => lv_ldc C.1 C.2.1 C.2.2.2.1 (C.2.2.2.2.1 _ (C.2.2.2.2.2.1 _ hw)) hd (hk _ h H locs ls hP hS hL)
theorem tk_ldc_w (C : ts_Cx X p s m args meth c cc nL own Ts) (hk : ∀ f, k f = some res → ts_VV X p l e R s m args below meth c nL Q f) {j : Nat} {v : Int32} (hd : decode cc pc = .ok (.ldc_w j, 3)) (hw : Cond.constant own j v ∈ ts_TB) (h : k (pc + 3, lo, .inl v :: st, σ) = some res) : ts_VV X p l e R s m args below meth c nL Q (pc, lo, st, σ) :=
  fun H locs ls hP hS hL => lv_ldcw C.1 C.2.1 C.2.2.2.1 (C.2.2.2.2.1 _ (C.2.2.2.2.2.1 _ hw)) hd (hk _ h H locs ls hP hS hL)
theorem tk_iload_n (C : ts_Cx X p s m args meth c cc nL own Ts) (hk : ∀ f, k f = some res → ts_VV X p l e R s m args below meth c nL Q f) {n : Fin 4} {j : Nat} (hd : decode cc pc = .ok (.iload_n n, 1)) (hj : (n : Nat) = j) (h : ts_li lo j (fun x => k (pc + 1, lo, .inl x :: st, σ)) = some res) : ts_VV X p l e R s m args below meth c nL Q (pc, lo, st, σ) := by
  obtain ⟨x, hx, h⟩ := ts_li_i h
  exact fun H locs ls hP hS hL => lv_iload_n C.1 C.2.1 hd hj (hL.2.2.2 _ _ hx) (hk _ h H locs ls hP hS hL)
theorem tk_iload (C : ts_Cx X p s m args meth c cc nL own Ts) (hk : ∀ f, k f = some res → ts_VV X p l e R s m args below meth c nL Q f) {j : Nat} (hd : decode cc pc = .ok (.iload j, 2)) (h : ts_li lo j (fun x => k (pc + 2, lo, .inl x :: st, σ)) = some res) : ts_VV X p l e R s m args below meth c nL Q (pc, lo, st, σ) := by
  obtain ⟨x, hx, h⟩ := ts_li_i h
  exact fun H locs ls hP hS hL => lv_iload C.1 C.2.1 hd (hL.2.2.2 _ _ hx) (hk _ h H locs ls hP hS hL)
theorem tk_lload_n (C : ts_Cx X p s m args meth c cc nL own Ts) (hk : ∀ f, k f = some res → ts_VV X p l e R s m args below meth c nL Q f) {n : Fin 4} {j : Nat} (hd : decode cc pc = .ok (.lload_n n, 1)) (hj : (n : Nat) = j) (h : ts_ll lo j (fun x => k (pc + 1, lo, .inr (.inl x) :: st, σ)) = some res) : ts_VV X p l e R s m args below meth c nL Q (pc, lo, st, σ) := by
  obtain ⟨x, hx, h⟩ := ts_ll_i h
  exact fun H locs ls hP hS hL => lv_lload_n C.1 C.2.1 hd hj (hL.2.2.2 _ _ hx) (hk _ h H locs ls hP hS hL)
theorem tk_lload (C : ts_Cx X p s m args meth c cc nL own Ts) (hk : ∀ f, k f = some res → ts_VV X p l e R s m args below meth c nL Q f) {j : Nat} (hd : decode cc pc = .ok (.lload j, 2)) (h : ts_ll lo j (fun x => k (pc + 2, lo, .inr (.inl x) :: st, σ)) = some res) : ts_VV X p l e R s m args below meth c nL Q (pc, lo, st, σ) := by
  obtain ⟨x, hx, h⟩ := ts_ll_i h
  exact fun H locs ls hP hS hL => lv_lload C.1 C.2.1 hd (hL.2.2.2 _ _ hx) (hk _ h H locs ls hP hS hL)
theorem tk_aload_n (C : ts_Cx X p s m args meth c cc nL own Ts) (hk : ∀ f, k f = some res → ts_VV X p l e R s m args below meth c nL Q f) {n : Fin 4} {j : Nat} (hd : decode cc pc = .ok (.aload_n n, 1)) (hj : (n : Nat) = j) (h : ts_lr lo j (fun x => k (pc + 1, lo, .inr (.inr x) :: st, σ)) = some res) : ts_VV X p l e R s m args below meth c nL Q (pc, lo, st, σ) := by
  obtain ⟨x, hx, h⟩ := ts_lr_i h
  rcases x with ⟨g, c⟩ | x
  · exact fun H locs ls hP hS hL => lv_aload_n C.1 C.2.1 hd hj (hL.2.2.2 _ _ hx) (hk _ h H locs ls hP hS hL)
  · exact fun H locs ls hP hS hL => lv_aload_n C.1 C.2.1 hd hj (hL.2.2.2 _ _ hx) (hk _ h H locs ls hP hS hL)
theorem tk_aload (C : ts_Cx X p s m args meth c cc nL own Ts) (hk : ∀ f, k f = some res → ts_VV X p l e R s m args below meth c nL Q f) {j : Nat} (hd : decode cc pc = .ok (.aload j, 2)) (h : ts_lr lo j (fun x => k (pc + 2, lo, .inr (.inr x) :: st, σ)) = some res) : ts_VV X p l e R s m args below meth c nL Q (pc, lo, st, σ) := by
  obtain ⟨x, hx, h⟩ := ts_lr_i h
  rcases x with ⟨g, c⟩ | x
  · exact fun H locs ls hP hS hL => lv_aload C.1 C.2.1 hd (hL.2.2.2 _ _ hx) (hk _ h H locs ls hP hS hL)
  · exact fun H locs ls hP hS hL => lv_aload C.1 C.2.1 hd (hL.2.2.2 _ _ hx) (hk _ h H locs ls hP hS hL)
theorem tk_istore_n (C : ts_Cx X p s m args meth c cc nL own Ts) (hk : ∀ f, k f = some res → ts_VV X p l e R s m args below meth c nL Q f) {n : Fin 4} {j : Nat} (hd : decode cc pc = .ok (.istore_n n, 1)) (hj : (n : Nat) = j) (h0 : ts_o1 st (fun x r => ts_sto lo j (.inl x) fun lo' => k (pc + 1, lo', r, σ)) = some res) : ts_VV X p l e R s m args below meth c nL Q (pc, lo, st, σ) := by
  obtain ⟨x, r, rfl, h⟩ := ts_o1_i h0
  obtain ⟨h1, h2, h⟩ := ts_sto_i h
  exact fun H locs ls hP hS hL => lv_istore_n C.1 C.2.1 hd hj (ts_lo_has hL) (hL.1 ▸ h1) rfl (fun ls' hl' => hk _ h H locs ls' hP hS (ts_lo_put hL h2 hl'))
theorem tk_istore (C : ts_Cx X p s m args meth c cc nL own Ts) (hk : ∀ f, k f = some res → ts_VV X p l e R s m args below meth c nL Q f) {j : Nat} (hd : decode cc pc = .ok (.istore j, 2)) (h0 : ts_o1 st (fun x r => ts_sto lo j (.inl x) fun lo' => k (pc + 2, lo', r, σ)) = some res) : ts_VV X p l e R s m args below meth c nL Q (pc, lo, st, σ) := by
  obtain ⟨x, r, rfl, h⟩ := ts_o1_i h0
  obtain ⟨h1, h2, h⟩ := ts_sto_i h
  exact fun H locs ls hP hS hL => lv_istore C.1 C.2.1 hd (ts_lo_has hL) (hL.1 ▸ h1) rfl (fun ls' hl' => hk _ h H locs ls' hP hS (ts_lo_put hL h2 hl'))
theorem tk_lstore_n (C : ts_Cx X p s m args meth c cc nL own Ts) (hk : ∀ f, k f = some res → ts_VV X p l e R s m args below meth c nL Q f) {n : Fin 4} {j : Nat} (hd : decode cc pc = .ok (.lstore_n n, 1)) (hj : (n : Nat) = j) (h0 : ts_l1 st (fun x r => ts_st2 lo j (.inr (.inl x)) fun lo' => k (pc + 1, lo', r, σ)) = some res) : ts_VV X p l e R s m args below meth c nL Q (pc, lo, st, σ) := by
  obtain ⟨x, r, rfl, h⟩ := ts_l1_i h0
  obtain ⟨h1, h2, h⟩ := ts_st2_i h
  exact fun H locs ls hP hS hL => lv_lstore_n C.1 C.2.1 hd hj (ts_lo_has hL) (hL.1 ▸ h1) rfl (fun ls' hl' => hk _ h H locs ls' hP hS (ts_lo_put2 hL h2 hl'))
theorem tk_lstore (C : ts_Cx X p s m args meth c cc nL own Ts) (hk : ∀ f, k f = some res → ts_VV X p l e R s m args below meth c nL Q f) {j : Nat} (hd : decode cc pc = .ok (.lstore j, 2)) (h0 : ts_l1 st (fun x r => ts_st2 lo j (.inr (.inl x)) fun lo' => k (pc + 2, lo', r, σ)) = some res) : ts_VV X p l e R s m args below meth c nL Q (pc, lo, st, σ) := by
  obtain ⟨x, r, rfl, h⟩ := ts_l1_i h0
  obtain ⟨h1, h2, h⟩ := ts_st2_i h
  exact fun H locs ls hP hS hL => lv_lstore C.1 C.2.1 hd (ts_lo_has hL) (hL.1 ▸ h1) rfl (fun ls' hl' => hk _ h H locs ls' hP hS (ts_lo_put2 hL h2 hl'))
theorem tk_iinc (C : ts_Cx X p s m args meth c cc nL own Ts) (hk : ∀ f, k f = some res → ts_VV X p l e R s m args below meth c nL Q f) {j : Nat} {n : Int} {v : Int32} (hd : decode cc pc = .ok (.iinc j n, 3)) (hv : Int32.ofInt n = v) (h : ts_li lo j (fun x => ts_sto lo j (.inl (x + v)) fun lo' => k (pc + 3, lo', st, σ)) = some res) : ts_VV X p l e R s m args below meth c nL Q (pc, lo, st, σ) := by
  obtain ⟨x, hx, h⟩ := ts_li_i h
  obtain ⟨h1, h2, h⟩ := ts_sto_i h
  intro H locs ls hP hS hL
  obtain ⟨q, hq⟩ := List.getElem?_of_mem (ts_prs_mem (X := X) hx)
  exact lv_iinc C.1 C.2.1 hd (ts_lo_has hL) hq (by rw [hv]) (hL.1 ▸ h1) rfl (fun ls' hl' => hk _ h H locs ls' hP hS (ts_lo_put hL h2 hl'))
theorem tk_iadd (C : ts_Cx X p s m args meth c cc nL own Ts) (hk : ∀ f, k f = some res → ts_VV X p l e R s m args below meth c nL Q f) (hd : decode cc pc = .ok (.iadd, 1)) (h0 : ts_o2 st (fun x y r => k (pc + 1, lo, .inl (x + y) :: r, σ)) = some res) : ts_VV X p l e R s m args below meth c nL Q (pc, lo, st, σ) := by
  obtain ⟨x, y, r, rfl, h⟩ := ts_o2_i h0
  exact fun H locs ls hP hS hL => lv_iadd C.1 C.2.1 hd (hk _ h H locs ls hP hS hL)
theorem tk_isub (C : ts_Cx X p s m args meth c cc nL own Ts) (hk : ∀ f, k f = some res → ts_VV X p l e R s m args below meth c nL Q f) (hd : decode cc pc = .ok (.isub, 1)) (h0 : ts_o2 st (fun x y r => k (pc + 1, lo, .inl (x - y) :: r, σ)) = some res) : ts_VV X p l e R s m args below meth c nL Q (pc, lo, st, σ) := by
  obtain ⟨x, y, r, rfl, h⟩ := ts_o2_i h0
  exact fun H locs ls hP hS hL => lv_isub C.1 C.2.1 hd (hk _ h H locs ls hP hS hL)
theorem tk_imul (C : ts_Cx X p s m args meth c cc nL own Ts) (hk : ∀ f, k f = some res → ts_VV X p l e R s m args below meth c nL Q f) (hd : decode cc pc = .ok (.imul, 1)) (h0 : ts_o2 st (fun x y r => k (pc + 1, lo, .inl (x * y) :: r, σ)) = some res) : ts_VV X p l e R s m args below meth c nL Q (pc, lo, st, σ) := by
  obtain ⟨x, y, r, rfl, h⟩ := ts_o2_i h0
  exact fun H locs ls hP hS hL => lv_imul C.1 C.2.1 hd (hk _ h H locs ls hP hS hL)
theorem tk_iand (C : ts_Cx X p s m args meth c cc nL own Ts) (hk : ∀ f, k f = some res → ts_VV X p l e R s m args below meth c nL Q f) (hd : decode cc pc = .ok (.iand, 1)) (h0 : ts_o2 st (fun x y r => k (pc + 1, lo, .inl (x &&& y) :: r, σ)) = some res) : ts_VV X p l e R s m args below meth c nL Q (pc, lo, st, σ) := by
  obtain ⟨x, y, r, rfl, h⟩ := ts_o2_i h0
  exact fun H locs ls hP hS hL => lv_iand C.1 C.2.1 hd (hk _ h H locs ls hP hS hL)
theorem tk_ior (C : ts_Cx X p s m args meth c cc nL own Ts) (hk : ∀ f, k f = some res → ts_VV X p l e R s m args below meth c nL Q f) (hd : decode cc pc = .ok (.ior, 1)) (h0 : ts_o2 st (fun x y r => k (pc + 1, lo, .inl (x ||| y) :: r, σ)) = some res) : ts_VV X p l e R s m args below meth c nL Q (pc, lo, st, σ) := by
  obtain ⟨x, y, r, rfl, h⟩ := ts_o2_i h0
  exact fun H locs ls hP hS hL => lv_ior C.1 C.2.1 hd (hk _ h H locs ls hP hS hL)
theorem tk_ixor (C : ts_Cx X p s m args meth c cc nL own Ts) (hk : ∀ f, k f = some res → ts_VV X p l e R s m args below meth c nL Q f) (hd : decode cc pc = .ok (.ixor, 1)) (h0 : ts_o2 st (fun x y r => k (pc + 1, lo, .inl (x ^^^ y) :: r, σ)) = some res) : ts_VV X p l e R s m args below meth c nL Q (pc, lo, st, σ) := by
  obtain ⟨x, y, r, rfl, h⟩ := ts_o2_i h0
  exact fun H locs ls hP hS hL => lv_ixor C.1 C.2.1 hd (hk _ h H locs ls hP hS hL)
theorem tk_ishl (C : ts_Cx X p s m args meth c cc nL own Ts) (hk : ∀ f, k f = some res → ts_VV X p l e R s m args below meth c nL Q f) (hd : decode cc pc = .ok (.ishl, 1)) (h0 : ts_o2 st (fun x y r => k (pc + 1, lo, .inl (x <<< (y &&& 31)) :: r, σ)) = some res) : ts_VV X p l e R s m args below meth c nL Q (pc, lo, st, σ) := by
  obtain ⟨x, y, r, rfl, h⟩ := ts_o2_i h0
  exact fun H locs ls hP hS hL => lv_ishl C.1 C.2.1 hd (hk _ h H locs ls hP hS hL)
theorem tk_ishr (C : ts_Cx X p s m args meth c cc nL own Ts) (hk : ∀ f, k f = some res → ts_VV X p l e R s m args below meth c nL Q f) (hd : decode cc pc = .ok (.ishr, 1)) (h0 : ts_o2 st (fun x y r => k (pc + 1, lo, .inl (x >>> (y &&& 31)) :: r, σ)) = some res) : ts_VV X p l e R s m args below meth c nL Q (pc, lo, st, σ) := by
  obtain ⟨x, y, r, rfl, h⟩ := ts_o2_i h0
  exact fun H locs ls hP hS hL => lv_ishr C.1 C.2.1 hd (hk _ h H locs ls hP hS hL)
theorem tk_iushr (C : ts_Cx X p s m args meth c cc nL own Ts) (hk : ∀ f, k f = some res → ts_VV X p l e R s m args below meth c nL Q f) (hd : decode cc pc = .ok (.iushr, 1)) (h0 : ts_o2 st (fun x y r => k (pc + 1, lo, .inl ((x.toUInt32 >>> (y.toUInt32 &&& Int32.toUInt32 31)).toInt32) :: r, σ)) = some res) : ts_VV X p l e R s m args below meth c nL Q (pc, lo, st, σ) := by
  obtain ⟨x, y, r, rfl, h⟩ := ts_o2_i h0
  exact fun H locs ls hP hS hL => lv_iushr C.1 C.2.1 hd rfl (hk _ h H locs ls hP hS hL)
theorem tk_idiv (C : ts_Cx X p s m args meth c cc nL own Ts) (hk : ∀ f, k f = some res → ts_VV X p l e R s m args below meth c nL Q f) (hd : decode cc pc = .ok (.idiv, 1)) (h0 : ts_o2 st (fun x y r => if y = 0 then none else k (pc + 1, lo, .inl (x / y) :: r, σ)) = some res) : ts_VV X p l e R s m args below meth c nL Q (pc, lo, st, σ) := by
  obtain ⟨x, y, r, rfl, h⟩ := ts_o2_i h0
  by_cases hy : y = 0
  · rw [if_pos hy] at h; cases h
  · rw [if_neg hy] at h
    exact fun H locs ls hP hS hL => lv_idiv C.1 C.2.1 hd hy (hk _ h H locs ls hP hS hL)
theorem tk_irem (C : ts_Cx X p s m args meth c cc nL own Ts) (hk : ∀ f, k f = some res → ts_VV X p l e R s m args below meth c nL Q f) (hd : decode cc pc = .ok (.irem, 1)) (h0 : ts_o2 st (fun x y r => if y = 0 then none else k (pc + 1, lo, .inl (x - x / y * y) :: r, σ)) = some res) : ts_VV X p l e R s m args below meth c nL Q (pc, lo, st, σ) := by
  obtain ⟨x, y, r, rfl, h⟩ := ts_o2_i h0
  by_cases hy : y = 0
  · rw [if_pos hy] at h; cases h
  · rw [if_neg hy] at h
    exact fun H locs ls hP hS hL => lv_irem C.1 C.2.1 hd hy (hk _ h H locs ls hP hS hL)
theorem tk_i2l (C : ts_Cx X p s m args meth c cc nL own Ts) (hk : ∀ f, k f = some res → ts_VV X p l e R s m args below meth c nL Q f) (hd : decode cc pc = .ok (.i2l, 1)) (h0 : ts_o1 st (fun x r => k (pc + 1, lo, .inr (.inl x.toInt64) :: r, σ)) = some res) : ts_VV X p l e R s m args below meth c nL Q (pc, lo, st, σ) := by
  obtain ⟨x, r, rfl, h⟩ := ts_o1_i h0
  exact fun H locs ls hP hS hL => lv_i2l C.1 C.2.1 hd rfl (hk _ h H locs ls hP hS hL)
theorem tk_i2b (C : ts_Cx X p s m args meth c cc nL own Ts) (hk : ∀ f, k f = some res → ts_VV X p l e R s m args below meth c nL Q f) (hd : decode cc pc = .ok (.i2b, 1)) (h0 : ts_o1 st (fun x r => k (pc + 1, lo, .inl x.toInt8.toInt32 :: r, σ)) = some res) : ts_VV X p l e R s m args below meth c nL Q (pc, lo, st, σ) := by
  obtain ⟨x, r, rfl, h⟩ := ts_o1_i h0
  exact fun H locs ls hP hS hL => lv_i2b C.1 C.2.1 hd rfl (hk _ h H locs ls hP hS hL)
theorem tk_i2s (C : ts_Cx X p s m args meth c cc nL own Ts) (hk : ∀ f, k f = some res → ts_VV X p l e R s m args below meth c nL Q f) (hd : decode cc pc = .ok (.i2s, 1)) (h0 : ts_o1 st (fun x r => k (pc + 1, lo, .inl x.toInt16.toInt32 :: r, σ)) = some res) : ts_VV X p l e R s m args below meth c nL Q (pc, lo, st, σ) := by
  obtain ⟨x, r, rfl, h⟩ := ts_o1_i h0
  exact fun H locs ls hP hS hL => lv_i2s C.1 C.2.1 hd rfl (hk _ h H locs ls hP hS hL)
theorem tk_ladd (C : ts_Cx X p s m args meth c cc nL own Ts) (hk : ∀ f, k f = some res → ts_VV X p l e R s m args below meth c nL Q f) (hd : decode cc pc = .ok (.ladd, 1)) (h0 : ts_l2 st (fun x y r => k (pc + 1, lo, .inr (.inl (x + y)) :: r, σ)) = some res) : ts_VV X p l e R s m args below meth c nL Q (pc, lo, st, σ) := by
  obtain ⟨x, y, r, rfl, h⟩ := ts_l2_i h0
  exact fun H locs ls hP hS hL => lv_ladd C.1 C.2.1 hd (hk _ h H locs ls hP hS hL)
theorem tk_lmul (C : ts_Cx X p s m args meth c cc nL own Ts) (hk : ∀ f, k f = some res → ts_VV X p l e R s m args below meth c nL Q f) (hd : decode cc pc = .ok (.lmul, 1)) (h0 : ts_l2 st (fun x y r => k (pc + 1, lo, .inr (.inl (x * y)) :: r, σ)) = some res) : ts_VV X p l e R s m args below meth c nL Q (pc, lo, st, σ) := by
  obtain ⟨x, y, r, rfl, h⟩ := ts_l2_i h0
  exact fun H locs ls hP hS hL => lv_lmul C.1 C.2.1 hd (hk _ h H locs ls hP hS hL)
theorem tk_lcmp (C : ts_Cx X p s m args meth c cc nL own Ts) (hk : ∀ f, k f = some res → ts_VV X p l e R s m args below meth c nL Q f) (hd : decode cc pc = .ok (.lcmp, 1)) (h0 : ts_l2 st (fun x y r => k (pc + 1, lo, .inl (lg_cmp x y) :: r, σ)) = some res) : ts_VV X p l e R s m args below meth c nL Q (pc, lo, st, σ) := by
  obtain ⟨x, y, r, rfl, h⟩ := ts_l2_i h0
  exact fun H locs ls hP hS hL => W.lcmp C.1 C.2.1 hd (hk _ h H locs ls hP hS hL)
theorem tk_dup (C : ts_Cx X p s m args meth c cc nL own Ts) (hk : ∀ f, k f = some res → ts_VV X p l e R s m args below meth c nL Q f) {v : ts_V} {r : List ts_V} (hs : st = v :: r) (hd : decode cc pc = .ok (.dup, 1)) (h : cond (ts_cat v == 1) (k (pc + 1, lo, v :: v :: r, σ)) none = some res) : ts_VV X p l e R s m args below meth c nL Q (pc, lo, st, σ) := by
  subst hs
  obtain ⟨h1, h⟩ := ts_cond_i h
  exact fun H locs ls hP hS hL => lv_dup C.1 C.2.1 hd (by rw [ts_tr_cat]; exact eq_of_beq h1) (hk _ h H locs ls hP hS hL)
theorem tk_pop (C : ts_Cx X p s m args meth c cc nL own Ts) (hk : ∀ f, k f = some res → ts_VV X p l e R s m args below meth c nL Q f) {v : ts_V} {r : List ts_V} (hs : st = v :: r) (hd : decode cc pc = .ok (.pop, 1)) (h : cond (ts_cat v == 1) (k (pc + 1, lo, r, σ)) none = some res) : ts_VV X p l e R s m args below meth c nL Q (pc, lo, st, σ) := by
  subst hs
  obtain ⟨h1, h⟩ := ts_cond_i h
  exact fun H locs ls hP hS hL => lv_pop C.1 C.2.1 hd (by rw [ts_tr_cat]; exact eq_of_beq h1) (hk _ h H locs ls hP hS hL)
theorem tk_dup2 (C : ts_Cx X p s m args meth c cc nL own Ts) (hk : ∀ f, k f = some res → ts_VV X p l e R s m args below meth c nL Q f) {v w : ts_V} {r : List ts_V} (hs : st = v :: w :: r) (hd : decode cc pc = .ok (.dup2, 1)) (h : cond (ts_cat v == 1 && ts_cat w == 1) (k (pc + 1, lo, v :: w :: v :: w :: r, σ)) none = some res) : ts_VV X p l e R s m args below meth c nL Q (pc, lo, st, σ) := by
  subst hs
  obtain ⟨h1, h⟩ := ts_cond_i h
  simp only [Bool.and_eq_true, beq_iff_eq] at h1
  exact fun H locs ls hP hS hL => lv_dup2_11 C.1 C.2.1 hd (by rw [ts_tr_cat]; exact h1.1) (by rw [ts_tr_cat]; exact h1.2) (hk _ h H locs ls hP hS hL)
theorem tk_ifCond_eq (C : ts_Cx X p s m args meth c cc nL own Ts) (hk : ∀ f, k f = some res → ts_VV X p l e R s m args below meth c nL Q f) {o : Int} {t : Nat} (hd : decode cc pc = .ok (.ifCond .eq o, 3)) (ht : (pc : Int) + o = (t : Int)) (h0 : ts_o1 st (fun x r => if x = 0 then k (t, lo, r, σ) else k (pc + 3, lo, r, σ)) = some res) : ts_VV X p l e R s m args below meth c nL Q (pc, lo, st, σ) := by
  obtain ⟨x, r, rfl, h⟩ := ts_o1_i h0
  exact fun H locs ls hP hS hL => lv_if_eq C.1 C.2.1 hd ht (fun q => hk (t, lo, r, σ) (by rw [if_pos q] at h; exact h) H locs ls hP hS hL) (fun q => hk (pc + 3, lo, r, σ) (by rw [if_neg q] at h; exact h) H locs ls hP hS hL)
theorem tk_if_icmp_eq (C : ts_Cx X p s m args meth c cc nL own Ts) (hk : ∀ f, k f = some res → ts_VV X p l e R s m args below meth c nL Q f) {o : Int} {t : Nat} (hd : decode cc pc = .ok (.if_icmp .eq o, 3)) (ht : (pc : Int) + o = (t : Int)) (h0 : ts_o2 st (fun x y r => if x = y then k (t, lo, r, σ) else k (pc + 3, lo, r, σ)) = some res) : ts_VV X p l e R s m args below meth c nL Q (pc, lo, st, σ) := by
  obtain ⟨x, y, r, rfl, h⟩ := ts_o2_i h0
  exact fun H locs ls hP hS hL => lv_icmp_eq C.1 C.2.1 hd ht (fun q => hk (t, lo, r, σ) (by rw [if_pos q] at h; exact h) H locs ls hP hS hL) (fun q => hk (pc + 3, lo, r, σ) (by rw [if_neg q] at h; exact h) H locs ls hP hS hL)
theorem tk_ifCond_ne (C : ts_Cx X p s m args meth c cc nL own Ts) (hk : ∀ f, k f = some res → ts_VV X p l e R s m args below meth c nL Q f) {o : Int} {t : Nat} (hd : decode cc pc = .ok (.ifCond .ne o, 3)) (ht : (pc : Int) + o = (t : Int)) (h0 : ts_o1 st (fun x r => if x = 0 then k (pc + 3, lo, r, σ) else k (t, lo, r, σ)) = some res) : ts_VV X p l e R s m args below meth c nL Q (pc, lo, st, σ) := by
  obtain ⟨x, r, rfl, h⟩ := ts_o1_i h0
  exact fun H locs ls hP hS hL => lv_if_ne C.1 C.2.1 hd ht (fun q => hk (t, lo, r, σ) (by rw [if_neg q] at h; exact h) H locs ls hP hS hL) (fun q => hk (pc + 3, lo, r, σ) (by rw [if_pos q] at h; exact h) H locs ls hP hS hL)
theorem tk_if_icmp_ne (C : ts_Cx X p s m args meth c cc nL own Ts) (hk : ∀ f, k f = some res → ts_VV X p l e R s m args below meth c nL Q f) {o : Int} {t : Nat} (hd : decode cc pc = .ok (.if_icmp .ne o, 3)) (ht : (pc : Int) + o = (t : Int)) (h0 : ts_o2 st (fun x y r => if x = y then k (pc + 3, lo, r, σ) else k (t, lo, r, σ)) = some res) : ts_VV X p l e R s m args below meth c nL Q (pc, lo, st, σ) := by
  obtain ⟨x, y, r, rfl, h⟩ := ts_o2_i h0
  exact fun H locs ls hP hS hL => lv_icmp_ne C.1 C.2.1 hd ht (fun q => hk (t, lo, r, σ) (by rw [if_neg q] at h; exact h) H locs ls hP hS hL) (fun q => hk (pc + 3, lo, r, σ) (by rw [if_pos q] at h; exact h) H locs ls hP hS hL)
theorem tk_ifCond_lt (C : ts_Cx X p s m args meth c cc nL own Ts) (hk : ∀ f, k f = some res → ts_VV X p l e R s m args below meth c nL Q f) {o : Int} {t : Nat} (hd : decode cc pc = .ok (.ifCond .lt o, 3)) (ht : (pc : Int) + o = (t : Int)) (h0 : ts_o1 st (fun x r => if x < 0 then k (t, lo, r, σ) else k (pc + 3, lo, r, σ)) = some res) : ts_VV X p l e R s m args below meth c nL Q (pc, lo, st, σ) := by
  obtain ⟨x, r, rfl, h⟩ := ts_o1_i h0
  exact fun H locs ls hP hS hL => lv_if_lt C.1 C.2.1 hd ht (fun q => hk (t, lo, r, σ) (by rw [if_pos q] at h; exact h) H locs ls hP hS hL) (fun q => hk (pc + 3, lo, r, σ) (by rw [if_neg q] at h; exact h) H locs ls hP hS hL)
theorem tk_if_icmp_lt (C : ts_Cx X p s m args meth c cc nL own Ts) (hk : ∀ f, k f = some res → ts_VV X p l e R s m args below meth c nL Q f) {o : Int} {t : Nat} (hd : decode cc pc = .ok (.if_icmp .lt o, 3)) (ht : (pc : Int) + o = (t : Int)) (h0 : ts_o2 st (fun x y r => if x < y then k (t, lo, r, σ) else k (pc + 3, lo, r, σ)) = some res) : ts_VV X p l e R s m args below meth c nL Q (pc, lo, st, σ) := by
  obtain ⟨x, y, r, rfl, h⟩ := ts_o2_i h0
  exact fun H locs ls hP hS hL => lv_icmp_lt C.1 C.2.1 hd ht (fun q => hk (t, lo, r, σ) (by rw [if_pos q] at h; exact h) H locs ls hP hS hL) (fun q => hk (pc + 3, lo, r, σ) (by rw [if_neg q] at h; exact h) H locs ls hP hS hL)
theorem tk_ifCond_ge (C : ts_Cx X p s m args meth c cc nL own Ts) (hk : ∀ f, k f = some res → ts_VV X p l e R s m args below meth c nL Q f) {o : Int} {t : Nat} (hd : decode cc pc = .ok (.ifCond .ge o, 3)) (ht : (pc : Int) + o = (t : Int)) (h0 : ts_o1 st (fun x r => if 0 ≤ x then k (t, lo, r, σ) else k (pc + 3, lo, r, σ)) = some res) : ts_VV X p l e R s m args below meth c nL Q (pc, lo, st, σ) := by
  obtain ⟨x, r, rfl, h⟩ := ts_o1_i h0
  exact fun H locs ls hP hS hL => lv_if_ge C.1 C.2.1 hd ht (fun q => hk (t, lo, r, σ) (by rw [if_pos q] at h; exact h) H locs ls hP hS hL) (fun q => hk (pc + 3, lo, r, σ) (by rw [if_neg q] at h; exact h) H locs ls hP hS hL)
theorem tk_if_icmp_ge (C : ts_Cx X p s m args meth c cc nL own Ts) (hk : ∀ f, k f = some res → ts_VV X p l e R s m args below meth c nL Q f) {o : Int} {t : Nat} (hd : decode cc pc = .ok (.if_icmp .ge o, 3)) (ht : (pc : Int) + o = (t : Int)) (h0 : ts_o2 st (fun x y r => if y ≤ x then k (t, lo, r, σ) else k (pc + 3, lo, r, σ)) = some res) : ts_VV X p l e R s m args below meth c nL Q (pc, lo, st, σ) := by
  obtain ⟨x, y, r, rfl, h⟩ := ts_o2_i h0
  exact fun H locs ls hP hS hL => lv_icmp_ge C.1 C.2.1 hd ht (fun q => hk (t, lo, r, σ) (by rw [if_pos q] at h; exact h) H locs ls hP hS hL) (fun q => hk (pc + 3, lo, r, σ) (by rw [if_neg q] at h; exact h) H locs ls hP hS hL)
theorem tk_ifCond_gt (C : ts_Cx X p s m args meth c cc nL own Ts) (hk : ∀ f, k f = some res → ts_VV X p l e R s m args below meth c nL Q f) {o : Int} {t : Nat} (hd : decode cc pc = .ok (.ifCond .gt o, 3)) (ht : (pc : Int) + o = (t : Int)) (h0 : ts_o1 st (fun x r => if 0 < x then k (t, lo, r, σ) else k (pc + 3, lo, r, σ)) = some res) : ts_VV X p l e R s m args below meth c nL Q (pc, lo, st, σ) := by
  obtain ⟨x, r, rfl, h⟩ := ts_o1_i h0
  exact fun H locs ls hP hS hL => lv_if_gt C.1 C.2.1 hd ht (fun q => hk (t, lo, r, σ) (by rw [if_pos q] at h; exact h) H locs ls hP hS hL) (fun q => hk (pc + 3, lo, r, σ) (by rw [if_neg q] at h; exact h) H locs ls hP hS hL)
theorem tk_if_icmp_gt (C : ts_Cx X p s m args meth c cc nL own Ts) (hk : ∀ f, k f = some res → ts_VV X p l e R s m args below meth c nL Q f) {o : Int} {t : Nat} (hd : decode cc pc = .ok (.if_icmp .gt o, 3)) (ht : (pc : Int) + o = (t : Int)) (h0 : ts_o2 st (fun x y r => if y < x then k (t, lo, r, σ) else k (pc + 3, lo, r, σ)) = some res) : ts_VV X p l e R s m args below meth c nL Q (pc, lo, st, σ) := by
  obtain ⟨x, y, r, rfl, h⟩ := ts_o2_i h0
  exact fun H locs ls hP hS hL => lv_icmp_gt C.1 C.2.1 hd ht (fun q => hk (t, lo, r, σ) (by rw [if_pos q] at h; exact h) H locs ls hP hS hL) (fun q => hk (pc + 3, lo, r, σ) (by rw [if_neg q] at h; exact h) H locs ls hP hS hL)
theorem tk_ifCond_le (C : ts_Cx X p s m args meth c cc nL own Ts) (hk : ∀ f, k f = some res → ts_VV X p l e R s m args below meth c nL Q f) {o : Int} {t : Nat} (hd : decode cc pc = .ok (.ifCond .le o, 3)) (ht : (pc : Int) + o = (t : Int)) (h0 : ts_o1 st (fun x r => if x ≤ 0 then k (t, lo, r, σ) else k (pc + 3, lo, r, σ)) = some res) : ts_VV X p l e R s m args below meth c nL Q (pc, lo, st, σ) := by
  obtain ⟨x, r, rfl, h⟩ := ts_o1_i h0
  exact fun H locs ls hP hS hL => lv_if_le C.1 C.2.1 hd ht (fun q => hk (t, lo, r, σ) (by rw [if_pos q] at h; exact h) H locs ls hP hS hL) (fun q => hk (pc + 3, lo, r, σ) (by rw [if_neg q] at h; exact h) H locs ls hP hS hL)
theorem tk_if_icmp_le (C : ts_Cx X p s m args meth c cc nL own Ts) (hk : ∀ f, k f = some res → ts_VV X p l e R s m args below meth c nL Q f) {o : Int} {t : Nat} (hd : decode cc pc = .ok (.if_icmp .le o, 3)) (ht : (pc : Int) + o = (t : Int)) (h0 : ts_o2 st (fun x y r => if x ≤ y then k (t, lo, r, σ) else k (pc + 3, lo, r, σ)) = some res) : ts_VV X p l e R s m args below meth c nL Q (pc, lo, st, σ) := by
  obtain ⟨x, y, r, rfl, h⟩ := ts_o2_i h0
  exact fun H locs ls hP hS hL => lv_icmp_le C.1 C.2.1 hd ht (fun q => hk (t, lo, r, σ) (by rw [if_pos q] at h; exact h) H locs ls hP hS hL) (fun q => hk (pc + 3, lo, r, σ) (by rw [if_neg q] at h; exact h) H locs ls hP hS hL)
theorem tk_goto (C : ts_Cx X p s m args meth c cc nL own Ts) (hk : ∀ f, k f = some res → ts_VV X p l e R s m args below meth c nL Q f) {o : Int} {t : Nat} (hd : decode cc pc = .ok (.goto o, 3)) (ht : (pc : Int) + o = (t : Int)) {ps : List (Nat × Nat)} (h : k (t, ts_fg lo ps, st, σ) = some res) : ts_VV X p l e R s m args below meth c nL Q (pc, lo, st, σ) :=
  fun H locs ls hP hS hL => lv_goto C.1 C.2.1 hd ht (hk _ h H locs ls hP hS (ts_lo_fg ps hL))
end TSK
end
section
/-! fields, rows, switches, answers, calls -/
def ts_TT (k : Nat) : u_T := match k with
  | 0 => TX1
  | 1 => TX2
  | 2 => TX3
  | 3 => TX4
  | _ => TX5
def ts_NN (k : Nat) : Nat := match k with
  | 0 => 15
  | 1 => 3
  | 2 => 6
  | 3 => 7
  | _ => 21
def ts_ty (k : Nat) : Nat → FieldType := match k with
  | 0 => tyX1
  | 1 => tyX2
  | 2 => tyX3
  | 3 => tyX4
  | _ => tyX5
theorem ts_vc_at {k : Nat} (h : k < 5) : ts_vc[k]? = some (ts_cn k, ts_TT k, ts_NN k) := by
  match k, h with
  | 0, _ => rfl
  | 1, _ => rfl
  | 2, _ => rfl
  | 3, _ => rfl
  | 4, _ => rfl
theorem ts_fl_len {k : Nat} (h : k < 5) : (ts_fl k).length = ts_NN k := by
  match k, h with
  | 0, _ => rfl
  | 1, _ => rfl
  | 2, _ => rfl
  | 3, _ => rfl
  | 4, _ => rfl
theorem ts_ty_ok {k : Nat} (h : k < 5) : ∀ j, j < ts_NN k → parseFieldDescriptor (ts_TT k j).2.2.1 = some (ts_ty k j) := by
  match k, h with
  | 0, _ => exact tyX1_ok
  | 1, _ => exact tyX2_ok
  | 2, _ => exact tyX3_ok
  | 3, _ => exact tyX4_ok
  | 4, _ => exact tyX5_ok
theorem ts_nm_ok {k : Nat} (h : k < 5) : ∀ a, a < ts_NN k → ∀ b, b < ts_NN k → a ≠ b → (ts_TT k a).2.1 ≠ (ts_TT k b).2.1 := by
  match k, h with
  | 0, _ => exact nmX1
  | 1, _ => exact nmX2
  | 2, _ => exact nmX3
  | 3, _ => exact nmX4
  | 4, _ => exact nmX5
/-- the fields' words lie in the tables -/
def ts_lw (k : Nat) : List Cond := u_ws (ts_cn k) (ts_TT k) (ts_NN k)
set_option maxRecDepth 20000 in
theorem ts_lw_in {k : Nat} (h : k < 5) : ∀ w ∈ ts_lw k, w ∈ ts_TB := by
  have g : ∀ k, k < 5 → (ts_lw k).all goodWord = true := by decide +kernel
  have i : ∀ k, k < 5 → (ts_lw k).all (fun w => tables_1_1.contains w || (tables_1_4.contains w || (tables_1_2.contains w || (tables_1_3.contains w || tables_1_5.contains w)))) = true := by decide +kernel
  intro w hw
  have h2 := List.all_eq_true.mp (i k h) w hw
  refine List.mem_filter.mpr ⟨?_, List.all_eq_true.mp (g k h) w hw⟩
  simp only [Bool.or_eq_true, List.contains_iff_mem] at h2
  unfold lw_tbl tables_1
  simp only [List.mem_append]
  rcases h2 with h2 | h2 | h2 | h2 | h2 <;> simp [h2]
end
section
/-! fields, rows, switches, answers, calls: the steps -/
theorem ts_al_lt {g c : Nat} {x : Option Nat} (h : (ts_al (ts_kd g))[c]? = some x) : g < 7 := by
  rcases Nat.lt_or_ge g 7 with q | q
  · exact q
  · have e : ts_kd g = 9 := by
      unfold ts_kd
      split <;> omega
    rw [e] at h
    cases c <;> cases h
section TSH
variable {X : ts_X} {p : Program} {l : Launch} {e : Env} {R : Room} {s : State} {m : MethodId} {args : Array Value} {below : List Frame} {meth : Method} {c : Code} {cc : ByteArray} {nL : Nat} {own : String} {Ts : List Cond} {Q : State → Prop} {pc : Nat} {lo : ts_L} {st : List ts_V} {σ : ts_S} {k : ts_K} {res : ts_A}
theorem tk_getfield (C : ts_Cx X p s m args meth c cc nL own Ts) (hk : ∀ f, k f = some res → ts_VV X p l e R s m args below meth c nL Q f) {j a b : Nat} (hd : decode cc pc = .ok (.getfield j, 3)) (ha : a < 5) (hw : Cond.fieldLink own j (ts_TT a b).1 (ts_TT a b).2.1 (ts_TT a b).2.2.1 ∈ ts_TB) (h0 : ts_r1 st (fun g c r => cond (c == 0 && ts_kd g == a) (ts_gf σ g b ((ts_fl a)[b]?) fun v => k (pc + 3, lo, v :: r, σ)) none) = some res) : ts_VV X p l e R s m args below meth c nL Q (pc, lo, st, σ) := by
  obtain ⟨g, c', r, rfl, h⟩ := ts_r1_i h0
  obtain ⟨h1, h2⟩ := ts_cond_i h
  simp only [Bool.and_eq_true, beq_iff_eq] at h1
  obtain ⟨rfl, rfl⟩ := h1
  have hg := ts_kd_lt rfl ha
  intro H locs ls hP hS hL
  obtain ⟨q, hq, hqw⟩ := ts_at X σ (ts_cell_obj hg)
  rcases ts_gf_i h2 with ⟨ho, h3⟩ | ⟨dg, c2, ho, h3⟩
  · exact va_get (D := X.1) (ci := ts_kd g) (v := .int (σ g 0 b)) C.1 C.2.1 C.2.2.2.2.1 (fun w hw => C.2.2.2.2.2.1 w (ts_lw_in ha w hw)) C.2.2.2.1 C.2.2.2.2.2.2.1.1 hP q hqw (ts_vc_at ha) b (by rw [← ts_fl_len ha]; exact (List.getElem?_eq_some_iff.mp ho).1) (C.2.2.2.2.1 _ (C.2.2.2.2.2.1 _ hw)) (fun _ h9 => h9) (ts_fs_at X σ ho) hd (hk _ h3 H locs ls hP hS hL)
  · exact va_get (D := X.1) (ci := ts_kd g) (v := .ref (X.2.1 (g + dg) c2)) C.1 C.2.1 C.2.2.2.2.1 (fun w hw => C.2.2.2.2.2.1 w (ts_lw_in ha w hw)) C.2.2.2.1 C.2.2.2.2.2.2.1.1 hP q hqw (ts_vc_at ha) b (by rw [← ts_fl_len ha]; exact (List.getElem?_eq_some_iff.mp ho).1) (C.2.2.2.2.1 _ (C.2.2.2.2.2.1 _ hw)) (fun _ h9 => h9) (ts_fs_at X σ ho) hd (hk _ h3 H locs ls hP hS hL)
theorem tk_putfield (C : ts_Cx X p s m args meth c cc nL own Ts) (hk : ∀ f, k f = some res → ts_VV X p l e R s m args below meth c nL Q f) {j a b g c' : Nat} {x : Int32} {r : List ts_V} (hs : st = .inl x :: .inr (.inr (.inl (g, c'))) :: r) (hd : decode cc pc = .ok (.putfield j, 3)) (ha : a < 5) (hw : Cond.fieldLink own j (ts_TT a b).1 (ts_TT a b).2.1 (ts_TT a b).2.2.1 ∈ ts_TB) (hfin : (ts_TT a b).2.2.2 = false) (hty : ts_ty a b = .int ∨ (ts_ty a b = .boolean ∧ (x = 0 ∨ x = 1)))
    (h1 : (c' == 0 && ts_kd g == a) = true) (ho : (ts_fl a)[b]? = some none) (h : k (pc + 3, lo, r, ts_up σ g 0 b x) = some res) : ts_VV X p l e R s m args below meth c nL Q (pc, lo, st, σ) := by
  subst hs
  simp only [Bool.and_eq_true, beq_iff_eq] at h1
  obtain ⟨rfl, rfl⟩ := h1
  have hg := ts_kd_lt rfl ha
  have hb : b < ts_NN (ts_kd g) := by rw [← ts_fl_len ha]; exact (List.getElem?_eq_some_iff.mp ho).1
  have hn : narrow (ts_ty (ts_kd g) b) (.int x) = .int x ∧ fits (ts_ty (ts_kd g) b) (.int x) = true := by
    rcases hty with e | ⟨e, rfl | rfl⟩ <;> rw [e]
    · exact ⟨rfl, rfl⟩
    · exact ⟨by decide, by decide⟩
    · exact ⟨by decide, by decide⟩
  intro H locs ls hP hS hL
  obtain ⟨q, hq, hqw⟩ := ts_at X σ (ts_cell_obj hg)
  refine va_put (D := X.1) (ci := ts_kd g) (v := .int x) (ty := ts_ty (ts_kd g) b) C.1 C.2.1 C.2.2.2.2.1 (fun w hw => C.2.2.2.2.2.1 w (ts_lw_in ha w hw)) (ts_ty (ts_kd g)) (ts_ty_ok ha) (ts_nm_ok ha) C.2.2.2.1 C.2.2.2.2.2.2.1.1 hP (C.2.2.2.2.2.2.2.1 σ) hS q hqw (ts_vc_at ha) b hb (C.2.2.2.2.1 _ (C.2.2.2.2.2.1 _ hw)) (fun _ h9 => h9) hfin (ts_ty_ok ha b hb) hn.1 hn.2 (by simp only [ts_fs, List.length_map, List.length_zipIdx]; exact (List.getElem?_eq_some_iff.mp ho).1) hd (fun H1 locs1 hP1 _ hS1 => ?_)
  rw [ts_set X (σ' := ts_up σ g 0 b x) hq (by show Sum.inr (ts_kd g, ts_fs X (ts_up σ g 0 b x) g) = _; rw [ts_fs_set X σ x ho]) (ts_put_o σ g 0 _)] at hP1
  exact hk _ h H1 locs1 ls hP1 hS1 hL
theorem tk_iaload (C : ts_Cx X p s m args meth c cc nL own Ts) (hk : ∀ f, k f = some res → ts_VV X p l e R s m args below meth c nL Q f) (hd : decode cc pc = .ok (.iaload, 1)) (h0 : ts_r2 st (fun j g c r => ts_an (ts_kd g) c fun n => ts_ck j n (k (pc + 1, lo, .inl (σ g c j.toNatClampNeg) :: r, σ))) = some res) : ts_VV X p l e R s m args below meth c nL Q (pc, lo, st, σ) := by
  obtain ⟨j, g, c', r, rfl, h⟩ := ts_r2_i h0
  obtain ⟨n, hn, h⟩ := ts_an_i h
  obtain ⟨hin, h⟩ := ts_ck_i h
  obtain ⟨hc, hc0⟩ := ts_cell_row (ts_al_lt hn) hn
  intro H locs ls hP hS hL
  obtain ⟨q, hq, hqw⟩ := ts_at X σ hc
  rw [ts_en_row X σ hc0 hn] at hqw
  exact va_iald (D := X.1) C.1 C.2.1 C.2.2.2.2.2.2.1.1 hP q 0 hqw rfl hin hd (hk _ h H locs ls hP hS hL)
theorem tk_iastore (C : ts_Cx X p s m args meth c cc nL own Ts) (hk : ∀ f, k f = some res → ts_VV X p l e R s m args below meth c nL Q f) (hd : decode cc pc = .ok (.iastore, 1)) (h0 : ts_r3 st (fun x j g c r => ts_an (ts_kd g) c fun n => ts_ck j n (k (pc + 1, lo, r, ts_up σ g c j.toNatClampNeg x))) = some res) : ts_VV X p l e R s m args below meth c nL Q (pc, lo, st, σ) := by
  obtain ⟨x, j, g, c', r, rfl, h⟩ := ts_r3_i h0
  obtain ⟨n, hn, h⟩ := ts_an_i h
  obtain ⟨hin, h⟩ := ts_ck_i h
  obtain ⟨hc, hc0⟩ := ts_cell_row (ts_al_lt hn) hn
  intro H locs ls hP hS hL
  obtain ⟨q, hq, hqw⟩ := ts_at X σ hc
  rw [ts_en_row X σ hc0 hn] at hqw
  refine va_iast (D := X.1) C.1 C.2.1 C.2.2.2.2.2.2.1.1 hP (C.2.2.2.2.2.2.2.1 σ) hS q 0 hqw rfl hin hd (fun H1 locs1 hP1 _ hS1 => ?_)
  rw [ts_set X (σ' := ts_up σ g c' j.toNatClampNeg x) hq (by rw [ts_en_row X _ hc0 hn, ts_up, ts_put_s]) (ts_put_o σ g c' _)] at hP1
  exact hk _ h H1 locs1 ls hP1 hS1 hL
theorem tk_aaload (C : ts_Cx X p s m args meth c cc nL own Ts) (hk : ∀ f, k f = some res → ts_VV X p l e R s m args below meth c nL Q f) (hd : decode cc pc = .ok (.aaload, 1)) (h0 : ts_r2 st (fun j g c r => cond (g == 6 && c == 6) (ts_ck j 7 (k (pc + 1, lo, .inr (.inr (.inr j.toNatClampNeg)) :: r, σ))) none) = some res) : ts_VV X p l e R s m args below meth c nL Q (pc, lo, st, σ) := by
  obtain ⟨j, g, c', r, rfl, h⟩ := ts_r2_i h0
  obtain ⟨h1, h⟩ := ts_cond_i h
  simp only [Bool.and_eq_true, beq_iff_eq] at h1
  obtain ⟨rfl, rfl⟩ := h1
  obtain ⟨hin, h⟩ := ts_ck_i h
  intro H locs ls hP hS hL
  obtain ⟨q, hq, hqw⟩ := ts_at X σ (g := 6) (c := 6) (by decide)
  exact va_aldq (D := X.1) (C := "java/lang/String") C.1 C.2.1 C.2.2.2.2.2.2.1.1 hP q 1 hqw rfl hin hd (hk _ h H locs ls hP hS hL)
theorem tk_arraylength (C : ts_Cx X p s m args meth c cc nL own Ts) (hk : ∀ f, k f = some res → ts_VV X p l e R s m args below meth c nL Q f) (hd : decode cc pc = .ok (.arraylength, 1)) (h0 : ts_r1 st (fun g c r => match (ts_al (ts_kd g))[c]? with
    | some (some n) => k (pc + 1, lo, .inl (Int32.ofNat n) :: r, σ)
    | _ => cond (g == 6 && c == 6) (k (pc + 1, lo, .inl 7 :: r, σ)) none) = some res) : ts_VV X p l e R s m args below meth c nL Q (pc, lo, st, σ) := by
  obtain ⟨g, c', r, rfl, h⟩ := ts_r1_i h0
  intro H locs ls hP hS hL
  split at h
  · next n hn =>
    obtain ⟨hc, hc0⟩ := ts_cell_row (ts_al_lt hn) hn
    obtain ⟨q, hq, hqw⟩ := ts_at X σ hc
    rw [ts_en_row X σ hc0 hn] at hqw
    exact va_alen (D := X.1) C.1 C.2.1 C.2.2.2.2.2.2.1.1 hP q 0 hqw (ty := .int) rfl rfl hd (hk _ h H locs ls hP hS hL)
  · obtain ⟨h1, h⟩ := ts_cond_i h
    simp only [Bool.and_eq_true, beq_iff_eq] at h1
    obtain ⟨rfl, rfl⟩ := h1
    obtain ⟨q, hq, hqw⟩ := ts_at X σ (g := 6) (c := 6) (by decide)
    exact va_alen (D := X.1) C.1 C.2.1 C.2.2.2.2.2.2.1.1 hP q 1 hqw (ty := .object "java/lang/String") rfl rfl hd (hk _ h H locs ls hP hS hL)
/-! String constants -/
theorem tk_ldcS (C : ts_Cx X p s m args meth c cc nL own Ts) (hk : ∀ f, k f = some res → ts_VV X p l e R s m args below meth c nL Q f) {j i : Nat} {tx : String} (hd : decode cc pc = .ok (.ldc j, 2)) (hw : (own, j, tx, i) ∈ ts_sr) (h : k (pc + 2, lo, .inr (.inr (.inr i)) :: st, σ) = some res) : ts_VV X p l e R s m args below meth c nL Q (pc, lo, st, σ) :=
  fun H locs ls hP hS hL => va_ldcS C.1 C.2.1 C.2.2.2.1 (C.2.2.2.2.2.2.1.2.2.1 _ hw) hd (hk _ h H locs ls hP hS hL)
theorem ts_ldcwS {T : State} {locs : List Loc} {cells slots : Nat} (Z : Stand p l e R s m args below meth c T locs cells slots) (hexec : p.tables.exec = Jvm.exec) {own text : String} {index : Nat} {a : Addr} (hown : s.vm.findClass own = some m.cls)
    (hconst : (Cond.stringRef own index text).before args s = true) (hev : (Term.string own index).eval args s none [] s = some (.ref a)) {g : JFrame} (hg : g.method = m) (hdg : decode c.code g.pc = .ok (.ldc_w index, 3)) :
    ∀ target, Steps p.tables e below (T.setTop { g with pc := g.pc + 3, stack := .ref a :: g.stack }) target → Steps p.tables e below (T.setTop g) target := by
  obtain ⟨k, cf, i, a', hk, hcf, hcp, -, hr, hev'⟩ := Cond.stringRef_spec hown hconst
  cases hev.symm.trans hev'
  obtain ⟨k', hk', he⟩ := Z.warmed.alike.2.2 _ _ hk
  have hr' : k'.resolved[index]? = some (some (.string a)) := by
    rcases Z.warmed.entry hk hk' index with h | ⟨h, -⟩
    · rw [h]; exact hr
    · rw [hr] at h; cases h
  intro target hrest
  subst hg
  jvm_step Z.here [hexec, hdg, ldc_w.wp_string (e := e) (s := T) (f := g) Z.here.top hk' (by rw [he]; exact hcf) hcp hr']
  exact hrest
theorem tk_ldcwS (C : ts_Cx X p s m args meth c cc nL own Ts) (hk : ∀ f, k f = some res → ts_VV X p l e R s m args below meth c nL Q f) {j i : Nat} {tx : String} (hd : decode cc pc = .ok (.ldc_w j, 3)) (hw : (own, j, tx, i) ∈ ts_sr) (h : k (pc + 3, lo, .inr (.inr (.inr i)) :: st, σ) = some res) : ts_VV X p l e R s m args below meth c nL Q (pc, lo, st, σ) := by
  intro H locs ls hP hS hL T hT Z
  obtain ⟨t, a1, b1⟩ := hk _ h H locs ls hP hS hL T hT Z
  have hZ := C.2.2.2.2.2.2.1.2.2.1 _ hw
  exact ⟨t, ts_ldcwS Z C.1 C.2.2.2.1 (text := tx) (a := X.2.2.1 i) hZ.1 hZ.2 (g := F0 m pc ls (st.map (ts_tr X))) rfl (by rw [C.2.1]; exact hd) t a1, b1⟩
/-! switches -/
def ts_tok (pc : Nat) : Nat → List Int → List (Nat × Nat) → Bool
  | _, [], [] => true
  | v, o :: os, (u, t) :: ps => (v == u && decide ((pc : Int) + o = (t : Int))) && ts_tok pc (v + 1) os ps
  | _, _, _ => false
theorem ts_tok_i {pc d : Nat} {x : Int32} {f : Nat → Option ts_A} {a : ts_A} : ∀ (os : List Int) (ps : List (Nat × Nat)) (v : Nat), ts_tok pc v os ps = true → ts_sw x d f ps = some a →
    (∃ j o t, os[j]? = some o ∧ x = Int32.ofNat (v + j) ∧ (pc : Int) + o = ((t : Nat) : Int) ∧ f t = some a) ∨ ((∀ j, j < os.length → ¬ x = Int32.ofNat (v + j)) ∧ f d = some a)
  | [], [], v, _, h => Or.inr ⟨fun j hj => absurd hj (Nat.not_lt_zero j), h⟩
  | [], _ :: _, v, hk, h => by cases hk
  | _ :: _, [], v, hk, h => by cases hk
  | o :: os, (u, t) :: ps, v, hk, h => by
    simp only [ts_tok, Bool.and_eq_true, beq_iff_eq, decide_eq_true_eq] at hk
    obtain ⟨⟨rfl, ht⟩, hk⟩ := hk
    by_cases hx : x = Int32.ofNat v
    · rw [ts_sw, if_pos hx] at h
      exact Or.inl ⟨0, o, t, rfl, hx, ht, h⟩
    · rw [ts_sw, if_neg hx] at h
      rcases ts_tok_i os ps (v + 1) hk h with ⟨j, o', t', h1, h2, h3, h4⟩ | ⟨h1, h2⟩
      · exact Or.inl ⟨j + 1, o', t', h1, by rw [h2]; congr 1; omega, h3, h4⟩
      · refine Or.inr ⟨fun j hj => ?_, h2⟩
        cases j with
        | zero => exact hx
        | succ j =>
          have := h1 j (by simpa using hj)
          intro e
          exact this (by rw [e]; congr 1; omega)
theorem tk_tableswitch (C : ts_Cx X p s m args meth c cc nL own Ts) (hk : ∀ f, k f = some res → ts_VV X p l e R s m args below meth c nL Q f) {d lw hi : Int} {offs : Array Int} {len v t : Nat} {ps : List (Nat × Nat)} (hd : decode cc pc = .ok (.tableswitch d lw hi offs, len)) (hv : lw = (v : Int)) (hh : hi = lw + (offs.size : Int) - 1) (hs : v + offs.size < 2 ^ 31) (ht : (pc : Int) + d = (t : Int)) (hok : ts_tok pc v offs.toList ps = true)
    (h0 : ts_o1 st (fun x r => ts_sw x t (fun u => k (u, lo, r, σ)) ps) = some res) : ts_VV X p l e R s m args below meth c nL Q (pc, lo, st, σ) := by
  obtain ⟨x, r, rfl, h⟩ := ts_o1_i h0
  intro H locs ls hP hS hL
  rcases ts_tok_i offs.toList ps v hok h with ⟨j, o, u, h1, h2, h3, h4⟩ | ⟨h1, h2⟩
  · have hj : j < offs.size := by
      have := (List.getElem?_eq_some_iff.mp h1).1
      simpa using this
    have hx : x.toInt = (v : Int) + (j : Int) := by
      rw [h2]
      have := nI_toInt (n := v + j) (by omega)
      rw [nI] at this
      rw [this]; omega
    refine lv_tableIn C.1 C.2.1 hd (off := o) (tgt := u) (by omega) (by omega) ?_ h3 (hk _ h4 H locs ls hP hS hL)
    have e : (x.toInt - lw).toNat = j := by omega
    rw [e, ← Array.getElem?_toList]; exact h1
  · refine lv_tableOut C.1 C.2.1 hd (tgt := t) ?_ ht (hk _ h2 H locs ls hP hS hL)
    rcases Int.lt_or_le x.toInt lw with q | q
    · exact Or.inl q
    · rcases Int.lt_or_le hi x.toInt with q2 | q2
      · exact Or.inr q2
      · exfalso
        refine h1 (x.toInt - lw).toNat (by simp; omega) ?_
        apply Int32.toInt_inj.mp
        have := nI_toInt (n := v + (x.toInt - lw).toNat) (by omega)
        rw [nI] at this
        rw [this]; omega
def ts_lok (pc : Nat) : List (Int × Int) → List (Nat × Nat) → Bool
  | [], [] => true
  | (a, o) :: os, (u, t) :: ps => (decide (a = (u : Int)) && (decide (u < 2 ^ 31) && decide ((pc : Int) + o = (t : Int)))) && ts_lok pc os ps
  | _, _ => false
theorem ts_lok_i {pc d : Nat} {x : Int32} {f : Nat → Option ts_A} {a : ts_A} {dl : Int} (hd : (pc : Int) + dl = (d : Int)) : ∀ (os : List (Int × Int)) (ps : List (Nat × Nat)), ts_lok pc os ps = true → ts_sw x d f ps = some a →
    ∃ t : Nat, (pc : Int) + Op.lookupswitch.offset os dl x.toInt = (t : Int) ∧ f t = some a
  | [], [], _, h => ⟨d, hd, h⟩
  | [], _ :: _, hk, h => by cases hk
  | _ :: _, [], hk, h => by cases hk
  | (b, o) :: os, (u, t) :: ps, hk, h => by
    simp only [ts_lok, Bool.and_eq_true, decide_eq_true_eq] at hk
    obtain ⟨⟨rfl, hu, ht⟩, hk⟩ := hk
    have e : (Int32.ofNat u).toInt = (u : Int) := nI_toInt hu
    by_cases hx : x = Int32.ofNat u
    · rw [ts_sw, if_pos hx] at h
      refine ⟨t, ?_, h⟩
      rw [Op.lookupswitch.offset_cons, if_pos (by rw [hx, e])]
      exact ht
    · rw [ts_sw, if_neg hx] at h
      obtain ⟨t', h1, h2⟩ := ts_lok_i hd os ps hk h
      refine ⟨t', ?_, h2⟩
      rw [lv_osw hx e]
      exact h1
theorem tk_lookupswitch (C : ts_Cx X p s m args meth c cc nL own Ts) (hk : ∀ f, k f = some res → ts_VV X p l e R s m args below meth c nL Q f) {d : Int} {prs : Array (Int × Int)} {len t : Nat} {ps : List (Nat × Nat)} (hd : decode cc pc = .ok (.lookupswitch d prs, len)) (hp : (prs.toList.zip (prs.toList.drop 1)).all (fun (a, next) => a.1 < next.1) = true) (ht : (pc : Int) + d = (t : Int)) (hok : ts_lok pc prs.toList ps = true)
    (h0 : ts_o1 st (fun x r => ts_sw x t (fun u => k (u, lo, r, σ)) ps) = some res) : ts_VV X p l e R s m args below meth c nL Q (pc, lo, st, σ) := by
  obtain ⟨x, r, rfl, h⟩ := ts_o1_i h0
  obtain ⟨u, h1, h2⟩ := ts_lok_i ht _ _ hok h
  exact fun H locs ls hP hS hL => lv_lookup C.1 C.2.1 hd hp rfl h1 (hk _ h2 H locs ls hP hS hL)
end TSH
end
section
/-! answers, calls -/
section TSR
variable {X : ts_X} {p : Program} {l : Launch} {e : Env} {R : Room} {s : State} {m : MethodId} {args : Array Value} {below : List Frame} {meth : Method} {c : Code} {cc : ByteArray} {nL : Nat} {own : String} {Ts : List Cond} {Q : State → Prop} {pc : Nat} {lo : ts_L} {st : List ts_V} {σ : ts_S} {k : ts_K} {res : ts_A}
theorem tk_ireturn (C : ts_Cx X p s m args meth c cc nL own Ts) (hr : meth.sig.returnType = some .int) {x : Int32} (hd : decode cc pc = .ok (.ireturn, 1)) : ts_VV X p l e R s m args below meth c nL (MQ below (ts_Po X (some (.inl x)) σ) args s 0 0 X.2.2.2.2.2.2) (pc, lo, [.inl x], σ) :=
  fun H locs ls hP hS hL => W.iret C.1 C.2.1 hr (fun t ht hW => ⟨rfl, by rw [ht]; exact hP, hS.F ht⟩) hS.2.2 hd C.2.2.2.2.2.2.2.2
theorem tk_zreturn (C : ts_Cx X p s m args meth c cc nL own Ts) (hr : meth.sig.returnType = some .boolean) {x : Int32} (hx : x = 0 ∨ x = 1) (hd : decode cc pc = .ok (.ireturn, 1)) : ts_VV X p l e R s m args below meth c nL (MQ below (ts_Po X (some (.inl x)) σ) args s 0 0 X.2.2.2.2.2.2) (pc, lo, [.inl x], σ) :=
  fun H locs ls hP hS hL => W.zret C.1 C.2.1 hr (by rcases hx with rfl | rfl <;> decide) (fun t ht hW => ⟨rfl, by rw [ht]; exact hP, hS.F ht⟩) hS.2.2 hd C.2.2.2.2.2.2.2.2
theorem tk_lreturn (C : ts_Cx X p s m args meth c cc nL own Ts) (hr : meth.sig.returnType = some .long) {x : Int64} (hd : decode cc pc = .ok (.lreturn, 1)) : ts_VV X p l e R s m args below meth c nL (MQ below (ts_Po X (some (.inr (.inl x))) σ) args s 0 0 X.2.2.2.2.2.2) (pc, lo, [.inr (.inl x)], σ) :=
  fun H locs ls hP hS hL => W.lret C.1 C.2.1 hr (fun t ht hW => ⟨rfl, by rw [ht]; exact hP, hS.F ht⟩) hS.2.2 hd C.2.2.2.2.2.2.2.2
theorem tk_areturn (C : ts_Cx X p s m args meth c cc nL own Ts) {nm : String} (hr : meth.sig.returnType = some (.object nm)) {x : (Nat × Nat) ⊕ Nat} (hd : decode cc pc = .ok (.areturn, 1)) : ts_VV X p l e R s m args below meth c nL (MQ below (ts_Po X (some (.inr (.inr x))) σ) args s 0 0 X.2.2.2.2.2.2) (pc, lo, [.inr (.inr x)], σ) := by
  intro H locs ls hP hS hL
  have ht : ∃ a, ts_tr X (.inr (.inr x)) = .ref a := by
    rcases x with ⟨g, c⟩ | x
    · exact ⟨_, rfl⟩
    · exact ⟨_, rfl⟩
  exact W.aret C.1 C.2.1 hr (Or.inl ⟨nm, rfl⟩) (Or.inr ht) (fun t ht hW => ⟨rfl, by rw [ht]; exact hP, hS.F ht⟩) hS.2.2 hd C.2.2.2.2.2.2.2.2
theorem tk_return (C : ts_Cx X p s m args meth c cc nL own Ts) (hr : meth.sig.returnType = none) (hd : decode cc pc = .ok (.return_, 1)) : ts_VV X p l e R s m args below meth c nL (MQ below (ts_Po X none σ) args s 0 0 X.2.2.2.2.2.2) (pc, lo, [], σ) :=
  fun H locs ls hP hS hL => W.vret C.1 C.2.1 hr (fun t ht hW => ⟨rfl, by rw [ht]; exact hP, hS.F ht⟩) hS.2.2 hd C.2.2.2.2.2.2.2.2
theorem ts_psh_map (X : ts_X) (r : Option ts_V) (rest : List ts_V) : (ts_psh r rest).map (ts_tr X) = (r.map (ts_tr X)).toList ++ rest.map (ts_tr X) := by
  cases r <;> rfl
theorem ts_bd_i {u : Nat} {o : Option ts_A} {rest : List ts_V} {f : List ts_V → ts_S → Option ts_A} {a : ts_A} (h : ts_bd u o rest f = some a) : o.bind (fun q => f (ts_psh q.1 rest) q.2) = some a := by
  unfold ts_bd at h
  split at h
  · unfold ts_bi at h; split at h
    · exact h
    · cases h
  · unfold ts_bv at h; split at h
    · exact h
    · cases h
  · unfold ts_bl at h; split at h
    · exact h
    · cases h
  · unfold ts_bs at h; split at h
    · exact h
    · cases h
/-- behind a call -/
theorem ts_go {H : Heap} {locs : List Loc} {ls : Array Slot} {st0 : List Value} {r : Option ts_V} {σ1 : ts_S} {rest : List ts_V} {a : Array Value} (hr : va_Run p l e R s m args below meth c H locs 0 0 0 0 (F0 m pc ls st0) (rest.map (ts_tr X)) (ts_Po X r σ1 a) X.2.2.2.2.2.2) (hS : va_S X.2.2.2.2.2.2 s.heap H locs)
    (kk : ∀ (H1 : Heap) (locs1 : List Loc), va_P X.1 ts_vc (ts_ws X σ1) H1 → va_S X.2.2.2.2.2.2 s.heap H1 locs1 → W p l e R s m args below meth c H1 locs1 0 0 Q (F0 m (pc + 3) ls ((ts_psh r rest).map (ts_tr X)))) : W p l e R s m args below meth c H locs 0 0 Q (F0 m pc ls st0) := by
  intro T hT Z
  obtain ⟨v, st₀, t, T', L, h0, Z', hL, e1, e2, ⟨hv, hp, hz, hk⟩, st⟩ := hr T hT Z
  have hv' : v = r.map (ts_tr X) := by injection hv
  subst hv'
  rw [h0] at hz hk
  obtain ⟨t2, a1, b1⟩ := kk T'.heap (locs ++ L) (by rw [e1]; exact hp)
    ⟨Nat.le_trans hS.1 (by rw [e1]; exact hz), fun q h1 h2 => by rw [e1, hk q (Nat.lt_of_lt_of_le h1 hS.1) h2]; exact hS.2.1 q h1 h2, fun q hq => by
      rcases List.mem_append.mp hq with h | h
      · exact hS.2.2 q h
      · exact hL q h⟩ T' rfl Z'
  rw [ts_psh_map] at a1
  exact ⟨t2, st t2 a1, b1⟩
theorem ts_good {mi : ts_M} (hi : ∀ w ∈ ts_TB, w ∈ Ts) (hc : Cond.code mi.1 mi.2.1 mi.2.2.1 mi.2.2.2.1 ∈ ts_TB) : GoodIn Ts (ts_wl mi) := by
  intro w hw
  have h : w ∈ ts_TB := by
    rcases List.mem_cons.mp hw with rfl | h
    · exact hc
    · exact h
  exact ⟨hi w h, good_of_word (List.mem_filter.mp h).2⟩
theorem ts_blind {as : List Value} : FrameBlind (va_Pc as (ts_Pr X σ)) := fun a U g mk q => ⟨q.1, q.2.1, ts_Y_call q.2.2⟩
theorem ts_pre (C : ts_Cx X p s m args meth c cc nL own Ts) {H : Heap} {locs : List Loc} (hP : va_P X.1 ts_vc (ts_ws X σ) H) (hS : va_S X.2.2.2.2.2.2 s.heap H locs) (as : List Value) : ∀ U : State, U.heap = H → s.WarmedH U.vm → va_Pc as (ts_Pr X σ) as.toArray U :=
  fun U hU hW => ⟨rfl, by rw [hU]; exact hP, ts_Y_to C.2.2.2.2.2.2.1 hW (fun q h1 h2 => by rw [hU]; exact hS.2.1 q h1 h2)⟩
theorem ts_sum_map (X : ts_X) : ∀ r : List ts_V, ((r.map (ts_tr X)).map fun v => v.category).sum = ts_sum r
  | [] => rfl
  | v :: r => by
    have := ts_sum_map X r
    simp only [List.map_cons, List.sum_cons, ts_tr_cat, ts_sum]
    rw [this]
theorem ts_fit {d d' : Nat} {n : Nat} (h : d' < d) (hn : n ≤ 20) : (ts_room d').frames + 1 ≤ (ts_room d).frames ∧ 8 + (n + 11) + (ts_room d').locals ≤ (ts_room d).locals := by
  refine ⟨h, ?_⟩
  show 8 + (n + 11) + 39 * d' ≤ 39 * d
  omega
theorem ts_recv (hY : ts_Y X s s.heap) {H : Heap} {locs : List Loc} (hP : va_P X.1 ts_vc (ts_ws X σ) H) (hS : va_S X.2.2.2.2.2.2 s.heap H locs) {t : Nat} (ht : t < 5 ∨ t = 8) {v : ts_V} {as : List ts_V} (h : ts_rc t (v :: as) = true) : ∃ a, ts_tr X v = .ref a ∧ ∃ cell : Cell, H[a]? = some cell ∧ cell.vm.isStatics = false ∧ s.vm.findClass (ts_cn t) = some cell.cls := by
  have h9 : ¬ t = 9 := by omega
  rcases v with x | x | ⟨g, c⟩ | j
  · simp [ts_rc, h9] at h
  · simp [ts_rc, h9] at h
  · simp only [ts_rc, Bool.or_eq_true, Bool.and_eq_true, beq_iff_eq, h9, or_false] at h
    obtain ⟨rfl, rfl⟩ := h
    have ha : ts_kd g < 5 := by
      rcases ht with h | h
      · exact h
      · exfalso
        have : ∀ g, ts_kd g ≠ 8 := by
          intro g
          unfold ts_kd
          split <;> decide
        exact this g h
    obtain ⟨q, hq, hqw⟩ := ts_at X σ (ts_cell_obj (ts_kd_lt rfl ha))
    exact ⟨_, rfl, va_recv hY.1 hP (ts_vc_at ha) hqw⟩
  · simp only [ts_rc, Bool.or_eq_true, Bool.and_eq_true, beq_iff_eq, h9, or_false] at h
    obtain ⟨rfl, hj⟩ := h
    obtain ⟨cell, h1, h2, h3, -⟩ := (hY.2.1 j (Nat.le_of_ble_eq_true hj)).1.kept hS.2.1
    exact ⟨_, rfl, cell, h1, h2, h3⟩
theorem ts_split (X : ts_X) {b : Nat} {v : ts_V} {as : List ts_V} (h : (st.take b).reverse = v :: as) : st.map (ts_tr X) = (as.map (ts_tr X)).reverse ++ ts_tr X v :: (st.drop b).map (ts_tr X) := by
  have e : st = as.reverse ++ v :: st.drop b := by
    have h1 : st.take b = as.reverse ++ [v] := by rw [← List.reverse_reverse (st.take b), h, List.reverse_cons]
    calc st = st.take b ++ st.drop b := (List.take_append_drop b st).symm
      _ = as.reverse ++ v :: st.drop b := by rw [h1]; simp
  have e2 := congrArg (List.map (ts_tr X)) e
  rw [List.map_append, List.map_cons, List.map_reverse] at e2
  exact e2
theorem ts_splitS (X : ts_X) {b : Nat} : st.map (ts_tr X) = (((st.take b).reverse).map (ts_tr X)).reverse ++ (st.drop b).map (ts_tr X) := by
  rw [List.map_reverse, List.reverse_reverse, ← List.map_append, List.take_append_drop]
theorem tk_virt {d : Nat} (C : ts_Cx X p s m args meth c cc nL own Ts) (hk : ∀ f, k f = some res → ts_VV X p l e (ts_room d) s m args below meth c nL Q f) {j b : Nat} {mi : ts_M} {S : List ts_V → ts_S → Option ts_A} (hc : ts_Cal X l d mi S) (ht : ¬ mi.2.2.2.2.2 = 9) (hb : b = mi.2.2.2.2.1 + 1) (hw : Cond.methodLink own j mi.1 ∈ ts_TB) (hd : decode cc pc = .ok (.invokevirtual j, 3)) (hlen : b ≤ st.length) (hsum : ts_sum (st.drop b) ≤ 8) (hrc : ts_rc mi.2.2.2.2.2 (st.take b).reverse = true)
    (h : (S (st.take b).reverse σ).bind (fun q => k (pc + 3, lo, ts_psh q.1 (st.drop b), q.2)) = some res) : ts_VV X p l e (ts_room d) s m args below meth c nL Q (pc, lo, st, σ) := by
  obtain ⟨⟨⟨hcode, hini⟩, hd1, hmx, hkind⟩, d', hdd, hM⟩ := hc
  cases hS' : S (st.take b).reverse σ with
  | none => rw [hS'] at h; cases h
  | some q =>
    obtain ⟨r, σ1⟩ := q
    rw [hS'] at h
    have h : k (pc + 3, lo, ts_psh r (st.drop b), σ1) = some res := h
    rcases hkind with ⟨e1, -⟩ | ⟨hlt, hcn, hinst, hsel⟩
    · exact absurd e1 ht
    have hlen2 : ((st.take b).reverse).length = b := by rw [List.length_reverse, List.length_take]; omega
    cases has : (st.take b).reverse with
    | nil => rw [has] at hlen2; simp at hlen2; omega
    | cons v as =>
      rw [has] at hrc hS' hlen2
      intro H locs ls hP hS hL
      obtain ⟨a, hv, cell, hc1, hc2, hc3⟩ := ts_recv C.2.2.2.2.2.2.1 hP hS hlt hrc
      have hMet := hM (v :: as) σ r σ1 hS'
      have tb : ∀ w ∈ ts_TB, w.before args s = true := fun w hw => C.2.2.2.2.1 w (C.2.2.2.2.2.1 w hw)
      have hnl : (as.map (ts_tr X)).length = mi.2.2.2.2.1 := by
        rw [List.length_map]
        simp at hlen2
        omega
      have hstk : (F0 m pc ls (st.map (ts_tr X))).stack = (as.map (ts_tr X)).reverse ++ Value.ref a :: (st.drop b).map (ts_tr X) := by
        show st.map (ts_tr X) = _
        rw [ts_split X has, hv]
      have hpc : va_Pc ((v :: as).map (ts_tr X)) (ts_Pr X σ) = va_Pc (Value.ref a :: as.map (ts_tr X)) (ts_Pr X σ) := by rw [List.map_cons, hv]
      rw [hpc] at hMet
      refine ts_go (a := (Value.ref a :: as.map (ts_tr X)).toArray) (rest := st.drop b) (va_runV (C := mi.1.cls) (b := a) (As := as.map (ts_tr X)) (rest := (st.drop b).map (ts_tr X)) (n := mi.2.2.2.2.1) ⟨C.1, C.2.1, C.2.2.1, C.2.2.2.1, C.2.2.2.2.1⟩ hMet
        ⟨callB_of mi.2.2.2.2.1 C.2.2.2.2.1 (ts_good C.2.2.2.2.2.1 hcode) rfl rfl rfl (tb _ hini) (tb _ hw) hd1 (ts_fit hdd hmx), tb _ hinst, tb _ hsel⟩
        ⟨ts_blind, ⟨cell, hc1, hc2, by rw [← hcn]; exact hc3⟩, ts_pre C hP hS _⟩ rfl hnl hL.2.1 hstk (lv_room (by rw [ts_sum_map]; exact hsum)) hd ⟨Nat.le_refl _, Nat.le_refl _⟩) hS (fun H1 locs1 hP1 hS1 => hk _ h H1 locs1 ls hP1 hS1 hL)
theorem tk_stat {d : Nat} (C : ts_Cx X p s m args meth c cc nL own Ts) (hk : ∀ f, k f = some res → ts_VV X p l e (ts_room d) s m args below meth c nL Q f) {j b : Nat} {mi : ts_M} {S : List ts_V → ts_S → Option ts_A} (hc : ts_Cal X l d mi S) (ht : mi.2.2.2.2.2 = 9) (hb : b = mi.2.2.2.2.1) (hw : Cond.methodLink own j mi.1 ∈ ts_TB ∨ (own = RX1 ∧ j = 64 ∧ mi.1 = yX4_isBelow)) (hd : decode cc pc = .ok (.invokestatic j, 3)) (hlen : b ≤ st.length) (hsum : ts_sum (st.drop b) ≤ 8)
    (h : (S (st.take b).reverse σ).bind (fun q => k (pc + 3, lo, ts_psh q.1 (st.drop b), q.2)) = some res) : ts_VV X p l e (ts_room d) s m args below meth c nL Q (pc, lo, st, σ) := by
  obtain ⟨⟨⟨hcode, hini⟩, hd1, hmx, hkind⟩, d', hdd, hM⟩ := hc
  cases hS' : S (st.take b).reverse σ with
  | none => rw [hS'] at h; cases h
  | some q =>
    obtain ⟨r, σ1⟩ := q
    rw [hS'] at h
    have h : k (pc + 3, lo, ts_psh r (st.drop b), σ1) = some res := h
    rcases hkind with ⟨-, hstat⟩ | ⟨hlt, -⟩
    · have hnl : (((st.take b).reverse).map (ts_tr X)).length = mi.2.2.2.2.1 := by rw [List.length_map, List.length_reverse, List.length_take]; omega
      intro H locs ls hP hS hL
      have hMet := hM _ σ r σ1 hS'
      have tb : ∀ w ∈ ts_TB, w.before args s = true := fun w hw => C.2.2.2.2.1 w (C.2.2.2.2.2.1 w hw)
      have hstk : (F0 m pc ls (st.map (ts_tr X))).stack = (((st.take b).reverse).map (ts_tr X)).reverse ++ (st.drop b).map (ts_tr X) := ts_splitS X
      rcases hw with hw | ⟨rfl, rfl, hy⟩
      · exact ts_go (a := (((st.take b).reverse).map (ts_tr X)).toArray) (rest := st.drop b) (va_runS (As := ((st.take b).reverse).map (ts_tr X)) (rest := (st.drop b).map (ts_tr X)) (n := mi.2.2.2.2.1) ⟨C.1, C.2.1, C.2.2.1, C.2.2.2.1, C.2.2.2.2.1⟩ hMet
          ⟨callB_of mi.2.2.2.2.1 C.2.2.2.2.1 (ts_good C.2.2.2.2.2.1 hcode) rfl rfl rfl (tb _ hini) (tb _ hw) hd1 (ts_fit hdd hmx), tb _ hstat⟩
          ⟨ts_blind, ts_pre C hP hS _⟩ rfl hnl hL.2.1 hstk (lv_room (by rw [ts_sum_map]; exact hsum)) hd ⟨Nat.le_refl _, Nat.le_refl _⟩) hS (fun H1 locs1 hP1 hS1 => hk _ h H1 locs1 ls hP1 hS1 hL)
      · have hnw : va_Nw (.methodLinkNest RX1 64 mi.1 RX4) s := by rw [hy]; exact C.2.2.2.2.2.2.1.2.2.2.1
        exact ts_go (a := (((st.take b).reverse).map (ts_tr X)).toArray) (rest := st.drop b) (va_runSN (As := ((st.take b).reverse).map (ts_tr X)) (rest := (st.drop b).map (ts_tr X)) (n := mi.2.2.2.2.1) ⟨C.1, C.2.1, C.2.2.1, C.2.2.2.1, C.2.2.2.2.1⟩ hMet
          ⟨va_cnB mi.2.2.2.2.1 C.2.2.2.2.1 (ts_good C.2.2.2.2.2.1 hcode) rfl rfl rfl hnw (tb _ hini) hd1 (ts_fit hdd hmx), tb _ hstat, trivial⟩
          ⟨ts_blind, ts_pre C hP hS _⟩ rfl hnl hL.2.1 hstk (lv_room (by rw [ts_sum_map]; exact hsum)) hd ⟨Nat.le_refl _, Nat.le_refl _⟩) hS (fun H1 locs1 hP1 hS1 => hk _ h H1 locs1 ls hP1 hS1 hL)
    · omega
theorem ts_ac_i {f : List ts_V → ts_S → Option ts_A} {a : ts_A} (h : ts_ac st σ f = some a) : ∃ n dp g1 c1 sp g0 c0 r n0 n1, st = .inl n :: .inl dp :: .inr (.inr (.inl (g1, c1))) :: .inl sp :: .inr (.inr (.inl (g0, c0))) :: r ∧ (ts_al (ts_kd g0))[c0]? = some (some n0) ∧ (ts_al (ts_kd g1))[c1]? = some (some n1) ∧ ¬ (sp < 0 ∨ dp < 0 ∨ n < 0 ∨ n0 < sp.toNatClampNeg + n.toNatClampNeg ∨ n1 < dp.toNatClampNeg + n.toNatClampNeg) ∧ f r (va_up σ g1 (va_up (σ g1) c1 (va_cpy (σ g0 c0) (σ g1 c1) sp.toNatClampNeg dp.toNatClampNeg n.toNatClampNeg))) = some a := by
  unfold ts_ac at h
  split at h
  · obtain ⟨n0, h1, h⟩ := ts_an_i h
    obtain ⟨n1, h2, h⟩ := ts_an_i h
    split at h
    · cases h
    · next hn => exact ⟨_, _, _, _, _, _, _, _, n0, n1, rfl, h1, h2, hn, h⟩
  · cases h
theorem tk_copy {d : Nat} (hd0 : 0 < d) (C : ts_Cx X p s m args meth c cc nL own Ts) (hk : ∀ f, k f = some res → ts_VV X p l e (ts_room d) s m args below meth c nL Q f) {j : Nat} (hw : Cond.methodLink own j arraycopyName ∈ ts_TB) (hw2 : Cond.native arraycopyName ∈ ts_TB ∧ Cond.static arraycopyName ∈ ts_TB ∧ Cond.initialized "java/lang/System" ∈ ts_TB) (hd : decode cc pc = .ok (.invokestatic j, 3))
    (h0 : ts_ac st σ (fun r σ' => cond (Nat.ble (ts_sum r) 8) (k (pc + 3, lo, r, σ')) none) = some res) : ts_VV X p l e (ts_room d) s m args below meth c nL Q (pc, lo, st, σ) := by
  obtain ⟨n, dp, g1, c1, sp, g0, c0, r, n0, n1, rfl, h1, h2, hn, h⟩ := ts_ac_i h0
  obtain ⟨hs, h3⟩ := ts_cond_i h
  have hs : ts_sum r ≤ 8 := Nat.le_of_ble_eq_true hs
  obtain ⟨hc, hc0⟩ := ts_cell_row (ts_al_lt h1) h1
  obtain ⟨hc', hc0'⟩ := ts_cell_row (ts_al_lt h2) h2
  have tb : ∀ w ∈ ts_TB, w.before args s = true := fun w hw => C.2.2.2.2.1 w (C.2.2.2.2.2.1 w hw)
  simp only [not_or, Nat.not_lt] at hn
  intro H locs ls hP hS hL
  obtain ⟨q, hq, hqw⟩ := ts_at X σ hc
  obtain ⟨q', hq', hqw'⟩ := ts_at X σ hc'
  rw [ts_en_row X σ hc0 h1] at hqw
  rw [ts_en_row X σ hc0' h2] at hqw'
  refine va_copyi (D := X.1) (ty := .int) C.1 C.2.1 (by rw [C.2.2.1, hL.2.1]) C.2.2.2.1 (tb _ hw) (tb _ hw2.1) (tb _ hw2.2.1) (tb _ hw2.2.2) C.2.2.2.2.2.2.1.1 hP (C.2.2.2.2.2.2.2.1 σ) hS q q' 0 0 hqw hqw' rfl rfl rfl hn.1 hn.2.1 hn.2.2.1 hn.2.2.2.1 hn.2.2.2.2 (fun _ _ => rfl) hd0 (by
    rw [ts_sum_map]
    show ts_sum r + (5 + 2 + 11) ≤ 39 * d
    omega) hd (fun H1 locs1 hP1 _ hS1 => ?_)
  rw [ts_set X (σ' := va_up σ g1 (va_up (σ g1) c1 (va_cpy (σ g0 c0) (σ g1 c1) sp.toNatClampNeg dp.toNatClampNeg n.toNatClampNeg))) hq' (by rw [ts_en_row X _ hc0' h2, ts_put_s]) (ts_put_o σ g1 c1 _)] at hP1
  exact hk _ h3 H1 locs1 ls hP1 hS1 hL
end TSR
end
section
/-! what the tables must say of an instruction; a method's contract out of its table -/
def ts_len (i : ts_I) : Nat := match i.1 with
  | .bipush _ => 2
  | .ldc _ => 2
  | .iload _ => 2
  | .lload _ => 2
  | .aload _ => 2
  | .istore _ => 2
  | .lstore _ => 2
  | .sipush _ => 3
  | .ldc_w _ => 3
  | .iinc _ _ => 3
  | .ifCond _ _ => 3
  | .if_icmp _ _ => 3
  | .goto _ => 3
  | .getfield _ => 3
  | .putfield _ => 3
  | .invokevirtual _ => 3
  | .invokestatic _ => 3
  | .tableswitch _ _ _ _ => i.2.2.1
  | .lookupswitch _ _ => i.2.2.1
  | _ => 1
def ts_okc (own : String) (j a b : Nat) (ps : List (Nat × Nat)) : Bool := match ps with
  | [(q, _)] => cond (b == 0) (ts_wx q (.constant own j (Int32.ofNat a))) (decide ((ts_sr[q]?).map (fun x => (x.1, x.2.1, x.2.2.2)) = some (own, j, a)))
  | _ => false
def ts_okf (own : String) (j a b : Nat) (ps : List (Nat × Nat)) : Bool := match ps with
  | [(q, _)] => decide (a < 5) && ts_wx q (.fieldLink own j (ts_TT a b).1 (ts_TT a b).2.1 (ts_TT a b).2.2.1)
  | _ => false
def ts_okp (a b : Nat) (ps : List (Nat × Nat)) : Bool := (!(ts_TT a b).2.2.2) && match ps with
  | [(_, 0)] => decide (ts_ty a b = .int)
  | _ => decide (ts_ty a b = .boolean)
def ts_okv (mi : Nat → ts_M) (cs : List Nat) (own : String) (j a b : Nat) (ps : List (Nat × Nat)) : Bool := match ps with
  | [(q, t), (_, _)] => cs.elem a && (decide ((mi a).2.2.2.2.2 = t) && (decide (¬ t = 9) && (decide (b = (mi a).2.2.2.2.1 + 1) && ts_wx q (.methodLink own j (mi a).1))))
  | _ => false
def ts_oks (d : Nat) (mi : Nat → ts_M) (cs : List Nat) (own : String) (j a b : Nat) (ps : List (Nat × Nat)) : Bool := match ps with
  | [(q, t), (_, _)] => cond (t == 7) (decide (0 < d) && ts_wx q (.methodLink own j arraycopyName)) (cs.elem a && (decide ((mi a).2.2.2.2.2 = 9) && (decide (b = (mi a).2.2.2.2.1) && cond (t == 6) (decide (own = RX1) && (decide (j = 64) && decide ((mi a).1 = yX4_isBelow))) (ts_wx q (.methodLink own j (mi a).1)))))
  | _ => false
def ts_okr (rt : Option FieldType) (a : Nat) : Bool := match rt with
  | some .int => a == 0
  | some .boolean => a == 1
  | _ => false
def ts_okb (d : Nat) (mi : Nat → ts_M) (cs : List Nat) (own : String) (rt : Option FieldType) (pc : Nat) (i : ts_I) : Bool := match i.1 with
  | .iconst n => decide (Int32.ofInt n = Int32.ofNat i.2.1)
  | .bipush n => decide ((Int8.ofInt n).toInt32 = Int32.ofNat i.2.1)
  | .sipush n => decide ((Int16.ofInt n).toInt32 = Int32.ofNat i.2.1)
  | .ldc j => ts_okc own j i.2.1 i.2.2.1 i.2.2.2
  | .ldc_w j => ts_okc own j i.2.1 i.2.2.1 i.2.2.2
  | .lconst n => decide (Int64.ofNat (n : Nat) = Int64.ofNat i.2.1)
  | .iload_n n => decide ((n : Nat) = i.2.1)
  | .lload_n n => decide ((n : Nat) = i.2.1)
  | .aload_n n => decide ((n : Nat) = i.2.1)
  | .istore_n n => decide ((n : Nat) = i.2.1)
  | .lstore_n n => decide ((n : Nat) = i.2.1)
  | .iload n => decide (n = i.2.1)
  | .lload n => decide (n = i.2.1)
  | .aload n => decide (n = i.2.1)
  | .istore n => decide (n = i.2.1)
  | .lstore n => decide (n = i.2.1)
  | .iinc j n => decide (j = i.2.1) && decide (Int32.ofInt n = Int32.ofNat i.2.2.1)
  | .ifCond _ o => decide ((pc : Int) + o = (i.2.1 : Int))
  | .if_icmp _ o => decide ((pc : Int) + o = (i.2.1 : Int))
  | .goto o => decide ((pc : Int) + o = (i.2.1 : Int))
  | .tableswitch d lw hi offs => decide (lw = (lw.toNat : Int)) && (decide (hi = lw + (offs.size : Int) - 1) && (decide (lw.toNat + offs.size < 2 ^ 31) && (decide ((pc : Int) + d = (i.2.1 : Int)) && ts_tok pc lw.toNat offs.toList i.2.2.2)))
  | .lookupswitch d prs => (prs.toList.zip (prs.toList.drop 1)).all (fun (a, next) => a.1 < next.1) && (decide ((pc : Int) + d = (i.2.1 : Int)) && ts_lok pc prs.toList i.2.2.2)
  | .getfield j => ts_okf own j i.2.1 i.2.2.1 i.2.2.2
  | .putfield j => ts_okf own j i.2.1 i.2.2.1 i.2.2.2 && ts_okp i.2.1 i.2.2.1 i.2.2.2
  | .invokevirtual j => ts_okv mi cs own j i.2.1 i.2.2.1 i.2.2.2
  | .invokestatic j => ts_oks d mi cs own j i.2.1 i.2.2.1 i.2.2.2
  | .ireturn => ts_okr rt i.2.1
  | .lreturn => decide (rt = some .long)
  | .areturn => decide (rt = some (.object "java/lang/String"))
  | .return_ => decide (rt = none)
  | _ => true
theorem ts_acw : Cond.native arraycopyName ∈ ts_TB ∧ Cond.static arraycopyName ∈ ts_TB ∧ Cond.initialized "java/lang/System" ∈ ts_TB :=
  ⟨ts_wx_in (q := 2137) (by decide +kernel), ts_wx_in (q := 2136) (by decide +kernel), ts_wx_in (q := 1008) (by decide +kernel)⟩
theorem ts_okc_s {own : String} {j a q : Nat} (h : decide ((ts_sr[q]?).map (fun x => (x.1, x.2.1, x.2.2.2)) = some (own, j, a)) = true) : ∃ tx, (own, j, tx, a) ∈ ts_sr := by
  have h := of_decide_eq_true h
  cases hq : ts_sr[q]? with
  | none => rw [hq] at h; cases h
  | some x =>
    rw [hq] at h
    obtain ⟨x1, x2, x3, x4⟩ := x
    have h := Option.some.inj h
    injection h with e1 h
    injection h with e2 e3
    dsimp only at e1 e2 e3
    subst e1; subst e2; subst e3
    exact ⟨x3, List.mem_of_getElem? hq⟩
section TSM
variable {X : ts_X} {p : Program} {l : Launch} {e : Env} {s : State} {m : MethodId} {args : Array Value} {below : List Frame} {meth : Method} {c : Code} {cc : ByteArray} {nL : Nat} {own : String} {Ts : List Cond} {pc : Nat} {lo : ts_L} {st : List ts_V} {σ : ts_S} {k : ts_K}
set_option maxHeartbeats 4000000 in
theorem ts_st_ok {d : Nat} (C : ts_Cx X p s m args meth c cc nL own Ts) {rt : Option FieldType} (hr : meth.sig.returnType = rt) {E : ts_E} {mi : Nat → ts_M} {cs : List Nat} (hE : ∀ z ∈ cs, ts_Cal X l d (mi z) (E z)) {r : Option ts_V} {σ' : ts_S} {i : ts_I} (hdc : decode cc pc = .ok (i.1, ts_len i)) (hok : ts_okb d mi cs own rt pc i = true)
    (hk : ∀ f, k f = some (r, σ') → ts_VV X p l e (ts_room d) s m args below meth c nL (MQ below (ts_Po X r σ') args s 0 0 X.2.2.2.2.2.2) f) (h : ts_st E i pc lo st σ k = some (r, σ')) : ts_VV X p l e (ts_room d) s m args below meth c nL (MQ below (ts_Po X r σ') args s 0 0 X.2.2.2.2.2.2) (pc, lo, st, σ) := by
  obtain ⟨i, a, b, ps⟩ := i
  cases i with
  | iconst n => exact tk_iconst C hk hdc (of_decide_eq_true hok) h
  | bipush n => exact tk_bipush C hk hdc (of_decide_eq_true hok) h
  | sipush n => exact tk_sipush C hk hdc (of_decide_eq_true hok) h
  | lconst n => exact tk_lconst C hk hdc (of_decide_eq_true hok) h
  | ldc j =>
    have hok : ts_okc own j a b ps = true := hok
    have hh : cond (b == 0) (k (pc + 2, lo, .inl (Int32.ofNat a) :: st, σ)) (k (pc + 2, lo, .inr (.inr (.inr a)) :: st, σ)) = some (r, σ') := h
    unfold ts_okc at hok
    split at hok
    · cases hb : (b == 0) with
      | true => rw [hb] at hok hh; exact tk_ldc C hk hdc (ts_wx_in hok) hh
      | false =>
        rw [hb] at hok hh
        obtain ⟨tx, hx⟩ := ts_okc_s hok
        exact tk_ldcS C hk hdc hx hh
    · cases hok
  | ldc_w j =>
    have hok : ts_okc own j a b ps = true := hok
    have hh : cond (b == 0) (k (pc + 3, lo, .inl (Int32.ofNat a) :: st, σ)) (k (pc + 3, lo, .inr (.inr (.inr a)) :: st, σ)) = some (r, σ') := h
    unfold ts_okc at hok
    split at hok
    · cases hb : (b == 0) with
      | true => rw [hb] at hok hh; exact tk_ldc_w C hk hdc (ts_wx_in hok) hh
      | false =>
        rw [hb] at hok hh
        obtain ⟨tx, hx⟩ := ts_okc_s hok
        exact tk_ldcwS C hk hdc hx hh
    · cases hok
  | iload_n n => exact tk_iload_n C hk hdc (of_decide_eq_true hok) h
  | lload_n n => exact tk_lload_n C hk hdc (of_decide_eq_true hok) h
  | aload_n n => exact tk_aload_n C hk hdc (of_decide_eq_true hok) h
  | istore_n n => exact tk_istore_n C hk hdc (of_decide_eq_true hok) h
  | lstore_n n => exact tk_lstore_n C hk hdc (of_decide_eq_true hok) h
  | iload n => cases (of_decide_eq_true hok : n = a); exact tk_iload C hk hdc h
  | lload n => cases (of_decide_eq_true hok : n = a); exact tk_lload C hk hdc h
  | aload n => cases (of_decide_eq_true hok : n = a); exact tk_aload C hk hdc h
  | istore n => cases (of_decide_eq_true hok : n = a); exact tk_istore C hk hdc h
  | lstore n => cases (of_decide_eq_true hok : n = a); exact tk_lstore C hk hdc h
  | iinc j n =>
    have hok : (decide (j = a) && decide (Int32.ofInt n = Int32.ofNat b)) = true := hok
    simp only [Bool.and_eq_true, decide_eq_true_eq] at hok
    obtain ⟨rfl, h2⟩ := hok
    exact tk_iinc C hk hdc h2 h
  | iadd => exact tk_iadd C hk hdc h
  | isub => exact tk_isub C hk hdc h
  | imul => exact tk_imul C hk hdc h
  | iand => exact tk_iand C hk hdc h
  | ior => exact tk_ior C hk hdc h
  | ixor => exact tk_ixor C hk hdc h
  | ishl => exact tk_ishl C hk hdc h
  | ishr => exact tk_ishr C hk hdc h
  | iushr => exact tk_iushr C hk hdc h
  | idiv => exact tk_idiv C hk hdc h
  | irem => exact tk_irem C hk hdc h
  | i2l => exact tk_i2l C hk hdc h
  | i2b => exact tk_i2b C hk hdc h
  | i2s => exact tk_i2s C hk hdc h
  | ladd => exact tk_ladd C hk hdc h
  | lmul => exact tk_lmul C hk hdc h
  | lcmp => exact tk_lcmp C hk hdc h
  | dup =>
    cases st with
    | nil => cases (show (none : Option ts_A) = some _ from h)
    | cons v r => exact tk_dup C hk rfl hdc h
  | pop =>
    cases st with
    | nil => cases (show (none : Option ts_A) = some _ from h)
    | cons v r => exact tk_pop C hk rfl hdc h
  | dup2 =>
    match st, h with
    | [], h => cases (show (none : Option ts_A) = some _ from h)
    | [_], h => cases (show (none : Option ts_A) = some _ from h)
    | v :: w :: r, h => exact tk_dup2 C hk rfl hdc h
  | ifCond q o =>
    cases q with
    | eq => exact tk_ifCond_eq C hk hdc (of_decide_eq_true hok) h
    | ne => exact tk_ifCond_ne C hk hdc (of_decide_eq_true hok) h
    | lt => exact tk_ifCond_lt C hk hdc (of_decide_eq_true hok) h
    | ge => exact tk_ifCond_ge C hk hdc (of_decide_eq_true hok) h
    | gt => exact tk_ifCond_gt C hk hdc (of_decide_eq_true hok) h
    | le => exact tk_ifCond_le C hk hdc (of_decide_eq_true hok) h
  | if_icmp q o =>
    cases q with
    | eq => exact tk_if_icmp_eq C hk hdc (of_decide_eq_true hok) h
    | ne => exact tk_if_icmp_ne C hk hdc (of_decide_eq_true hok) h
    | lt => exact tk_if_icmp_lt C hk hdc (of_decide_eq_true hok) h
    | ge => exact tk_if_icmp_ge C hk hdc (of_decide_eq_true hok) h
    | gt => exact tk_if_icmp_gt C hk hdc (of_decide_eq_true hok) h
    | le => exact tk_if_icmp_le C hk hdc (of_decide_eq_true hok) h
  | goto o => exact tk_goto C hk hdc (of_decide_eq_true hok) h
  | tableswitch dl lw hi offs =>
    have hok : (decide (lw = (lw.toNat : Int)) && (decide (hi = lw + (offs.size : Int) - 1) && (decide (lw.toNat + offs.size < 2 ^ 31) && (decide ((pc : Int) + dl = (a : Int)) && ts_tok pc lw.toNat offs.toList ps)))) = true := hok
    simp only [Bool.and_eq_true, decide_eq_true_eq] at hok
    exact tk_tableswitch C hk hdc hok.1 hok.2.1 hok.2.2.1 hok.2.2.2.1 hok.2.2.2.2 h
  | lookupswitch dl prs =>
    have hok : ((prs.toList.zip (prs.toList.drop 1)).all (fun (a, next) => a.1 < next.1) && (decide ((pc : Int) + dl = (a : Int)) && ts_lok pc prs.toList ps)) = true := hok
    rw [Bool.and_eq_true, Bool.and_eq_true] at hok
    exact tk_lookupswitch C hk hdc hok.1 (of_decide_eq_true hok.2.1) hok.2.2 h
  | getfield j =>
    have hok : ts_okf own j a b ps = true := hok
    unfold ts_okf at hok
    split at hok
    · rw [Bool.and_eq_true] at hok
      exact tk_getfield C hk hdc (of_decide_eq_true hok.1) (ts_wx_in hok.2) h
    · cases hok
  | putfield j =>
    have hok : (ts_okf own j a b ps && ts_okp a b ps) = true := hok
    rw [Bool.and_eq_true] at hok
    obtain ⟨h1, h2⟩ := hok
    unfold ts_okf at h1
    split at h1
    · next q z =>
      rw [Bool.and_eq_true] at h1
      have h2 : ((!(ts_TT a b).2.2.2) = true) ∧ (match z with | 0 => decide (ts_ty a b = .int) | _ => decide (ts_ty a b = .boolean)) = true := by
        cases z with
        | zero => exact Bool.and_eq_true_iff.mp h2
        | succ z => exact Bool.and_eq_true_iff.mp h2
      have hf : (ts_TT a b).2.2.2 = false := by simpa using h2.1
      match st, h with
      | [], h => cases (show (none : Option ts_A) = some _ from h)
      | [.inl _], h => cases (show (none : Option ts_A) = some _ from h)
      | .inr _ :: _, h => cases (show (none : Option ts_A) = some _ from h)
      | .inl _ :: .inl _ :: _, h => cases (show (none : Option ts_A) = some _ from h)
      | .inl _ :: .inr (.inl _) :: _, h => cases (show (none : Option ts_A) = some _ from h)
      | .inl _ :: .inr (.inr (.inr _)) :: _, h => cases (show (none : Option ts_A) = some _ from h)
      | .inl x :: .inr (.inr (.inl (g, c'))) :: r', h =>
        obtain ⟨h3, h⟩ := ts_cond_i h
        obtain ⟨h4, h⟩ := ts_pf_i h
        cases z with
        | zero => exact tk_putfield C hk rfl hdc (of_decide_eq_true h1.1) (ts_wx_in h1.2) hf (Or.inl (of_decide_eq_true h2.2)) h3 h4 h
        | succ z =>
          have h : (if x = 0 ∨ x = 1 then k (pc + 3, lo, r', ts_up σ g 0 b x) else none) = some (r, σ') := h
          by_cases hx : x = 0 ∨ x = 1
          · rw [if_pos hx] at h
            exact tk_putfield C hk rfl hdc (of_decide_eq_true h1.1) (ts_wx_in h1.2) hf (Or.inr ⟨of_decide_eq_true h2.2, hx⟩) h3 h4 h
          · rw [if_neg hx] at h; cases h
    · cases h1
  | iaload => exact tk_iaload C hk hdc h
  | iastore => exact tk_iastore C hk hdc h
  | aaload => exact tk_aaload C hk hdc h
  | arraylength => exact tk_arraylength C hk hdc h
  | invokevirtual j =>
    have hok : ts_okv mi cs own j a b ps = true := hok
    unfold ts_okv at hok
    split at hok
    · next q t u _ _ =>
      simp only [Bool.and_eq_true, decide_eq_true_eq] at hok
      obtain ⟨h1, h2, h3, h4, h5⟩ := hok
      obtain ⟨h6, h⟩ := ts_cond_i h
      simp only [Bool.and_eq_true] at h6
      subst h2
      exact tk_virt C hk (hE a (List.elem_iff.mp h1)) h3 h4 (ts_wx_in h5) hdc (Nat.le_of_ble_eq_true h6.1) (Nat.le_of_ble_eq_true h6.2.1) h6.2.2 (ts_bd_i h)
    · cases hok
  | invokestatic j =>
    have hok : ts_oks d mi cs own j a b ps = true := hok
    unfold ts_oks at hok
    split at hok
    · next q t u _ _ =>
      have h : cond (t == 7) (ts_ac st σ fun r σ' => cond (Nat.ble (ts_sum r) 8) (k (pc + 3, lo, r, σ')) none)
        (cond (Nat.ble b st.length && Nat.ble (ts_sum (st.drop b)) 8) (ts_bd u (E a (st.take b).reverse σ) (st.drop b) fun r σ' => k (pc + 3, lo, r, σ')) none) = some (r, σ') := h
      cases ht : (t == 7) with
      | true =>
        rw [ht] at hok h
        have hok : (decide (0 < d) && ts_wx q (.methodLink own j arraycopyName)) = true := hok
        rw [Bool.and_eq_true] at hok
        exact tk_copy (of_decide_eq_true hok.1) C hk (ts_wx_in hok.2) ts_acw hdc h
      | false =>
        rw [ht] at hok h
        have hok : (cs.elem a && (decide ((mi a).2.2.2.2.2 = 9) && (decide (b = (mi a).2.2.2.2.1) && cond (t == 6) (decide (own = RX1) && (decide (j = 64) && decide ((mi a).1 = yX4_isBelow))) (ts_wx q (.methodLink own j (mi a).1))))) = true := hok
        rw [Bool.and_eq_true, Bool.and_eq_true, Bool.and_eq_true] at hok
        obtain ⟨h1, h2, h3, h4⟩ := hok
        obtain ⟨h6, h⟩ := ts_cond_i h
        rw [Bool.and_eq_true] at h6
        refine tk_stat C hk (hE a (List.elem_iff.mp h1)) (of_decide_eq_true h2) (of_decide_eq_true h3) ?_ hdc (Nat.le_of_ble_eq_true h6.1) (Nat.le_of_ble_eq_true h6.2) (ts_bd_i h)
        cases h7 : (t == 6) with
        | true =>
          rw [h7] at h4
          simp only [cond_true, Bool.and_eq_true, decide_eq_true_eq] at h4
          exact Or.inr h4
        | false =>
          rw [h7] at h4
          exact Or.inl (ts_wx_in h4)
    · cases hok
  | ireturn =>
    have hok : ts_okr rt a = true := hok
    match st, h with
    | [], h => cases (show (none : Option ts_A) = some _ from h)
    | .inr _ :: _, h => cases (show (none : Option ts_A) = some _ from h)
    | .inl _ :: _ :: _, h => cases (show (none : Option ts_A) = some _ from h)
    | [.inl x], h =>
      have h : cond (a == 0) (some (some (.inl x), σ)) (if x = 0 ∨ x = 1 then some (some (.inl x), σ) else none) = some (r, σ') := h
      unfold ts_okr at hok
      split at hok
      · rw [hok] at h
        cases h
        exact tk_ireturn C hr hdc
      · have ha : (a == 0) = false := by rw [eq_of_beq hok]; rfl
        rw [ha] at h
        have h : (if x = 0 ∨ x = 1 then some (some (.inl x), σ) else none) = some (r, σ') := h
        by_cases hx : x = 0 ∨ x = 1
        · rw [if_pos hx] at h
          cases h
          exact tk_zreturn C hr hx hdc
        · rw [if_neg hx] at h; cases h
      · cases hok
  | lreturn =>
    match st, h with
    | [], h => cases (show (none : Option ts_A) = some _ from h)
    | .inl _ :: _, h => cases (show (none : Option ts_A) = some _ from h)
    | .inr (.inr _) :: _, h => cases (show (none : Option ts_A) = some _ from h)
    | .inr (.inl _) :: _ :: _, h => cases (show (none : Option ts_A) = some _ from h)
    | [.inr (.inl x)], h =>
      cases (show some (some (.inr (.inl x)), σ) = some (r, σ') from h)
      exact tk_lreturn C (hr.trans (of_decide_eq_true hok)) hdc
  | areturn =>
    match st, h with
    | [], h => cases (show (none : Option ts_A) = some _ from h)
    | .inl _ :: _, h => cases (show (none : Option ts_A) = some _ from h)
    | .inr (.inl _) :: _, h => cases (show (none : Option ts_A) = some _ from h)
    | .inr (.inr _) :: _ :: _, h => cases (show (none : Option ts_A) = some _ from h)
    | [.inr (.inr x)], h =>
      cases (show some (some (.inr (.inr x)), σ) = some (r, σ') from h)
      exact tk_areturn C (hr.trans (of_decide_eq_true hok)) hdc
  | return_ =>
    match st, h with
    | _ :: _, h => cases (show (none : Option ts_A) = some _ from h)
    | [], h =>
      cases (show some (none, σ) = some (r, σ') from h)
      exact tk_return C (hr.trans (of_decide_eq_true hok)) hdc
  | _ => cases (show (none : Option ts_A) = some _ from h)
/-- a method's whole table -/
def ts_tbo (d : Nat) (mi : Nat → ts_M) (cs : List Nat) (own : String) (rt : Option FieldType) (cc : ByteArray) : Nat → List (Option ts_I) → Bool
  | _, [] => true
  | pc, none :: r => ts_tbo d mi cs own rt cc (pc + 1) r
  | pc, some i :: r => (decide (decode cc pc = .ok (i.1, ts_len i)) && ts_okb d mi cs own rt pc i) && ts_tbo d mi cs own rt cc (pc + 1) r
theorem ts_tbo_i {d : Nat} {mi : Nat → ts_M} {cs : List Nat} {own : String} {rt : Option FieldType} {cc : ByteArray} {i : ts_I} : ∀ (tb : List (Option ts_I)) (n pc : Nat), ts_tbo d mi cs own rt cc n tb = true → tb[pc]? = some (some i) → decode cc (n + pc) = .ok (i.1, ts_len i) ∧ ts_okb d mi cs own rt (n + pc) i = true
  | [], n, pc, _, h => by cases h
  | none :: r, n, pc, hk, h => by
    cases pc with
    | zero => cases h
    | succ pc =>
      have := ts_tbo_i r (n + 1) pc hk h
      rw [show n + (pc + 1) = n + 1 + pc by omega]
      exact this
  | some j :: r, n, pc, hk, h => by
    simp only [ts_tbo, Bool.and_eq_true, decide_eq_true_eq] at hk
    cases pc with
    | zero => cases h; exact hk.1
    | succ pc =>
      have := ts_tbo_i r (n + 1) pc hk.2 h
      rw [show n + (pc + 1) = n + 1 + pc by omega]
      exact this
theorem ts_run_ok {d : Nat} (C : ts_Cx X p s m args meth c cc nL own Ts) {rt : Option FieldType} (hr : meth.sig.returnType = rt) {E : ts_E} {mi : Nat → ts_M} {cs : List Nat} (hE : ∀ z ∈ cs, ts_Cal X l d (mi z) (E z)) {r : Option ts_V} {σ' : ts_S} {tb : List (Option ts_I)} (htb : ts_tbo d mi cs own rt cc 0 tb = true) : ∀ (n : Nat) (f : ts_C), ts_run E tb n f = some (r, σ') → ts_VV X p l e (ts_room d) s m args below meth c nL (MQ below (ts_Po X r σ') args s 0 0 X.2.2.2.2.2.2) f
  | 0, f, h => by cases h
  | n + 1, f, h => by
    have h : ts_stp E tb f (ts_run E tb n) = some (r, σ') := h
    unfold ts_stp at h
    split at h
    · next i hi =>
      obtain ⟨h1, h2⟩ := ts_tbo_i tb 0 f.1 htb hi
      rw [Nat.zero_add] at h1 h2
      obtain ⟨pc, lo, st, σ⟩ := f
      exact ts_st_ok C hr hE h1 h2 (ts_run_ok C hr hE htb n) h
    · cases h
end TSM
def ts_aok (as : List ts_V) (n : Nat) : Bool := as.all (fun v => ts_cat v == 1) && Nat.ble as.length n
/-- the pure function of a method: its table's limit from its entry -/
noncomputable def ts_Fn (E : ts_E) (tb : List (Option ts_I)) (n : Nat) (as : List ts_V) (σ : ts_S) : Option ts_A := cond (ts_aok as n) (ts_R E tb (0, ts_ent as n, [], σ)) none
theorem ts_sl_len (X : ts_X) : ∀ as : List ts_V, as.all (fun v => ts_cat v == 1) = true → (lg_sl (as.map (ts_tr X))).length = as.length
  | [], _ => rfl
  | v :: as, h => by
    simp only [List.all_cons, Bool.and_eq_true, beq_iff_eq] at h
    have ih := ts_sl_len X as h.2
    unfold lg_sl at ih ⊢
    rw [List.map_cons, List.flatMap_cons, List.length_append, ih]
    have hc : ¬ (ts_tr X v).category = 2 := by rw [ts_tr_cat, h.1]; decide
    rw [if_neg hc]
    simp; omega
theorem ts_args_mem (X : ts_X) : ∀ (as : List ts_V) (i j : Nat) (v : ts_V), as.all (fun v => ts_cat v == 1) = true → as[j]? = some v → (i + j, ts_tr X v) ∈ lv_args i (as.map (ts_tr X))
  | [], i, j, v, _, h => by cases h
  | w :: as, i, j, v, hc, h => by
    simp only [List.all_cons, Bool.and_eq_true, beq_iff_eq] at hc
    have hc1 : ¬ (ts_tr X w).category = 2 := by rw [ts_tr_cat, hc.1]; decide
    show _ ∈ (i, ts_tr X w) :: lv_args (if (ts_tr X w).category = 2 then i + 2 else i + 1) (as.map (ts_tr X))
    rw [if_neg hc1]
    cases j with
    | zero => cases h; exact List.mem_cons_self
    | succ j =>
      refine List.mem_cons_of_mem _ ?_
      have := ts_args_mem X as (i + 1) j v hc.2 h
      rw [show i + (j + 1) = i + 1 + j by omega]
      exact this
/-- a method out of its walk: its class plainly named, or no native row for it -/
theorem ts_ofW {l : Launch} {y : MethodName} {ws ws' : List Cond} {rm : Room} {Pc : Array Value → State → Prop} {Qc : Array Value → State → Outcome → State → Prop} {mc ms : Nat} {free : Addr → Prop} {cc : ByteArray} {maxL : Nat} {ret : Option FieldType}
    (hy : plainFor y = true) (hw : ws = Cond.code y cc maxL ret :: ws')
    (body : ∀ p e s m args below meth c s₁, BodyLoose p l y (headSpec ws rm) cc maxL ret e s m args below meth c s₁ → c.maxLocals = maxL → Pc args s →
      W p l e (headSpec ws rm).room s m args below meth c s.heap [] 0 0 (MQ below Qc args s mc ms free) (entryFrame m args maxL)) : Met l y ws rm Pc Qc mc ms free := by
  refine MetFree.of_bodySF (code := cc) (maxLocals := maxL) (ret := ret) hy ?_ ?_
  · intro args s m h hn
    obtain ⟨meth, c, h1, h2, h3, h4, h5, h6, -, -⟩ := Cond.code_spec hn (atoms_spec (ws := ws) h _ (by rw [hw]; exact List.mem_cons_self))
    exact ⟨meth, c, h1, h2, h3, h4, h5, h6⟩
  · intro p e s m args below meth c s₁ B hml hP _
    have hh0 : s₁.heap = s.heap := by rw [B.state]; rfl
    obtain ⟨t, a1, o, b1, b2, b3⟩ := body p e s m args below meth c s₁ B hml hP s₁ hh0 (Stand.of_body B)
    exact ⟨t, o, a1, b1, b2, ⟨b3.1, b3.2⟩⟩
theorem ts_con {X : ts_X} {l : Launch} (mi0 : ts_M) (d : Nat) {E : ts_E} {mi : Nat → ts_M} {cs : List Nat} {tb : List (Option ts_I)} (hpl : plainFor mi0.1 = true) (hD : ∀ σ, va_D X.2.2.2.2.2.2 (ts_ws X σ)) (hE : ∀ z ∈ cs, ts_Cal X l d (mi z) (E z)) (htb : ts_tbo d mi cs mi0.1.cls mi0.2.2.2.1 mi0.2.1 0 tb = true) : ts_Met X l mi0 d (ts_Fn E tb mi0.2.2.1) := by
  intro as σ r σ' hS
  obtain ⟨hok, hR⟩ := ts_cond_i hS
  rw [ts_aok, Bool.and_eq_true] at hok
  obtain ⟨hcat, hle⟩ := hok
  have hle : as.length ≤ mi0.2.2.1 := Nat.le_of_ble_eq_true hle
  obtain ⟨n, hn⟩ := ts_R_spec hR
  refine ts_ofW (cc := mi0.2.1) (maxL := mi0.2.2.1) (ret := mi0.2.2.2.1) hpl rfl ?_
  intro p e s m args below meth c s₁ B hml hv
  obtain ⟨rfl, hP, hY⟩ := hv
  have C : ts_Cx X p s m (as.map (ts_tr X)).toArray meth c mi0.2.1 mi0.2.2.1 mi0.1.cls (ts_wl mi0) := ⟨B.exec, B.bytes, hml, findClass_of_methodNamed B.named, atoms_spec (ws := ts_wl mi0) B.pre, fun w hw => List.mem_cons_of_mem _ hw, hY, hD, B.notSynchronized⟩
  have hV := ts_run_ok (l := l) (e := e) (below := below) C B.returns hE htb n _ hn
  rw [lg_entry_eq]
  refine hV s.heap [] _ hP va_S.rf ?_
  have hl := lv_entry (as.map (ts_tr X)) (n := mi0.2.2.1) (by rw [ts_sl_len X as hcat]; exact hle)
  refine ⟨?_, hl.1, hl.2.1, fun j v hj => ?_⟩
  · show (ts_ent as mi0.2.2.1).length = mi0.2.2.1
    simp only [ts_ent, List.length_append, List.length_map, List.length_replicate]
    omega
  · have hj : (ts_ent as mi0.2.2.1)[j]? = some (some v) := hj
    have hja : as[j]? = some v := by
      rw [ts_ent, List.getElem?_append] at hj
      split at hj
      · rw [List.getElem?_map] at hj
        cases hx : as[j]? with
        | none => rw [hx] at hj; cases hj
        | some w => rw [hx] at hj; cases hj; rfl
      · rw [List.getElem?_replicate] at hj
        split at hj <;> cases hj
    have := ts_args_mem X as 0 j v hcat hja
    rw [Nat.zero_add] at this
    exact hl.2.2 (j, ts_tr X v) this
end
section
/-! the methods: name, code, locals, answer, parameters, receiver -/
def ts_ML0 : List ts_M := [(yX0_parentOf, cX0_parentOf, 1, (some .int), 1, 9),
  (yX0_isUnder, cX0_isUnder, 4, (some .boolean), 2, 9),
  (yX0_nameOf, cX0_nameOf, 1, (some (.object "java/lang/String")), 1, 9),
  (yJ0_length_8abf5, cJ0_length_8abf5, 1, (some .int), 0, 8),
  (yJ0_charAt_5068e, cJ0_charAt_5068e, 2, (some .char), 1, 8),
  (yX3_isWord, cX3_isWord, 3, (some .boolean), 1, 2),
  (yX0_kindNamed, cX0_kindNamed, 2, (some .int), 1, 9),
  (yX0_mostHeld, cX0_mostHeld, 1, (some .int), 1, 9),
  (yX0_greatest, cX0_greatest, 2, (some .int), 1, 9),
  (yX0_least, cX0_least, 2, (some .int), 1, 9),
  (yX0_wordTaken, cX0_wordTaken, 6, (some .int), 3, 9),
  (yX0_placeGiven, cX0_placeGiven, 3, (some .int), 3, 9),
  (yX1_become, cX1_become, 2, none, 1, 0),
  (yX4_isBelow, cX4_isBelow, 2, (some .boolean), 2, 9),
  (yX1_isSill, cX1_isSill, 2, (some .boolean), 1, 0),
  (yX1_isPerson, cX1_isPerson, 2, (some .boolean), 1, 0),
  (yX1_hasWord, cX1_hasWord, 3, (some .boolean), 2, 0),
  (yX1_addSill, cX1_addSill, 3, (some .int), 1, 0),
  (yX1_addPerson, cX1_addPerson, 3, (some .int), 1, 0),
  (yX1_keptAt, cX1_keptAt, 3, (some .int), 2, 0),
  (yX1_keptSet, cX1_keptSet, 4, (some .int), 1, 0),
  (yX1_keep, cX1_keep, 3, (some .boolean), 2, 0),
  (yX1_dropKept, cX1_dropKept, 5, none, 2, 0),
  (yX1_placeGiven, cX1_placeGiven, 2, (some .int), 1, 0),
  (yX1_tellSill, cX1_tellSill, 3, (some .int), 2, 0),
  (yX1_tellPerson, cX1_tellPerson, 3, (some .int), 2, 0),
  (yX1_mayCross, cX1_mayCross, 3, (some .boolean), 2, 0),
  (yJ9_min_7cf53, cJ9_min_7cf53, 2, (some .int), 2, 9),
  (yX1_loseWord, cX1_loseWord, 1, none, 0, 0),
  (yX1_goIn, cX1_goIn, 5, (some .int), 2, 0),
  (yX1_comeOut, cX1_comeOut, 5, (some .int), 2, 0),
  (yX1_makeCrossing, cX1_makeCrossing, 4, (some .int), 2, 0),
  (yJ9_floorMod_7cf53, cJ9_floorMod_7cf53, 3, (some .int), 2, 9),
  (yX1_placeOfToday, cX1_placeOfToday, 1, (some .int), 0, 0),
  (yX1_passDays, cX1_passDays, 4, none, 1, 0),
  (yX1_draw, cX1_draw, 1, (some .int), 0, 0),
  (yX1_wordsHad, cX1_wordsHad, 3, (some .int), 0, 0),
  (yX1_wordsKept, cX1_wordsKept, 3, (some .int), 0, 0),
  (yX1_peopleInside, cX1_peopleInside, 3, (some .int), 0, 0),
  (yX1_peopleWithoutWords, cX1_peopleWithoutWords, 3, (some .int), 0, 0)]
def ts_ML1 : List ts_M := [(yX1_wearOfAll, cX1_wearOfAll, 3, (some .int), 0, 0),
  (yX1_keptInAll, cX1_keptInAll, 3, (some .int), 0, 0),
  (yX1_spotsInUse, cX1_spotsInUse, 3, (some .int), 0, 0),
  (yX2_isMissing, cX2_isMissing, 2, (some .boolean), 1, 1),
  (yX2_layOut, cX2_layOut, 5, none, 3, 1),
  (yX2_numberAt, cX2_numberAt, 3, (some .int), 2, 1),
  (yX2_lowestBits, cX2_lowestBits, 2, (some .int), 2, 9),
  (yX2_put, cX2_put, 4, none, 3, 1),
  (yX2_hasRange, cX2_hasRange, 4, (some .boolean), 3, 1),
  (yX2_move, cX2_move, 6, none, 5, 1),
  (yX2_admits, cX2_admits, 5, (some .boolean), 3, 1),
  (yX3_append, cX3_append, 4, (some .boolean), 2, 2),
  (yX3_isLetter, cX3_isLetter, 1, (some .boolean), 1, 9),
  (yX3_isDigit, cX3_isDigit, 1, (some .boolean), 1, 9),
  (yX3_readToken, cX3_readToken, 1, none, 0, 2),
  (yX3_isNumber, cX3_isNumber, 2, (some .boolean), 1, 2),
  (yX3_readPerson, cX3_readPerson, 3, (some .boolean), 1, 2),
  (yX3_readCrossing, cX3_readCrossing, 4, (some .boolean), 1, 2),
  (yX3_readKept, cX3_readKept, 4, (some .boolean), 2, 2),
  (yX3_readSill, cX3_readSill, 4, (some .boolean), 2, 2),
  (yX3_readItem, cX3_readItem, 3, (some .boolean), 1, 2),
  (yX3_readItems, cX3_readItems, 3, (some .int), 1, 2),
  (yX4_tell, cX4_tell, 2, (some .int), 1, 3),
  (yX4_list, cX4_list, 5, (some .int), 3, 3),
  (yX4_listed, cX4_listed, 2, (some .int), 1, 3),
  (yX4_sill, cX4_sill, 3, (some .int), 1, 3),
  (yX4_isWithin, cX4_isWithin, 3, (some .boolean), 3, 9),
  (yX4_person, cX4_person, 3, (some .int), 1, 3),
  (yX4_of, cX4_of, 3, (some .int), 2, 3),
  (yX4_word, cX4_word, 4, (some .int), 2, 3),
  (yX4_replace, cX4_replace, 4, (some .int), 3, 9),
  (yX4_change, cX4_change, 4, (some .int), 3, 3),
  (yX4_lay, cX4_lay, 3, (some .int), 2, 3),
  (yX4_ofPerson, cX4_ofPerson, 3, (some .int), 2, 3),
  (yX4_send, cX4_send, 4, (some .int), 3, 3),
  (yX4_takes, cX4_takes, 4, (some .int), 2, 3),
  (yX4_cross, cX4_cross, 3, (some .int), 2, 3),
  (yX4_go, cX4_go, 2, (some .int), 1, 3),
  (yX4_now, cX4_now, 2, (some .int), 1, 3),
  (yX4_beginTrial, cX4_beginTrial, 1, none, 0, 3)]
def ts_ML2 : List ts_M := [(yX4_ahead, cX4_ahead, 5, (some .int), 3, 3),
  (yX4_later, cX4_later, 4, (some .int), 3, 3),
  (yX4_hears, cX4_hears, 4, (some .int), 2, 3),
  (yX4_waste, cX4_waste, 3, (some .int), 1, 3),
  (yX4_mute, cX4_mute, 3, (some .int), 1, 3),
  (yX4_sillFor, cX4_sillFor, 7, (some .int), 2, 3),
  (yX4_kindFor, cX4_kindFor, 6, (some .int), 2, 3),
  (yX4_wordFor, cX4_wordFor, 5, (some .int), 3, 3),
  (yJ6_bitCount_0f7a4, cJ6_bitCount_0f7a4, 1, (some .int), 1, 9),
  (yX4_hasWhenMended, cX4_hasWhenMended, 6, (some .boolean), 4, 3),
  (yX4_mend, cX4_mend, 7, (some .int), 3, 3),
  (yX4_seek, cX4_seek, 4, (some .int), 2, 3),
  (yX4_hasAsTold, cX4_hasAsTold, 4, (some .boolean), 2, 3),
  (yX4_fits, cX4_fits, 7, (some .int), 2, 3),
  (yX4_keepsAsTold, cX4_keepsAsTold, 4, (some .boolean), 2, 3),
  (yX4_kinds, cX4_kinds, 5, (some .int), 2, 3),
  (yX4_stroll, cX4_stroll, 5, (some .int), 1, 3),
  (yX4_commonDivisor, cX4_commonDivisor, 3, (some .int), 2, 9),
  (yX4_power, cX4_power, 5, (some .long), 2, 9),
  (yX4_odds, cX4_odds, 6, (some .long), 3, 3),
  (yX4_seed, cX4_seed, 3, (some .int), 1, 3),
  (yX4_feed, cX4_feed, 3, (some .int), 2, 3),
  (yX4_wipe, cX4_wipe, 2, (some .int), 0, 3),
  (yX4_text, cX4_text, 2, (some .int), 0, 3),
  (yX4_hold, cX4_hold, 3, (some .int), 2, 3),
  (yX4_as, cX4_as, 4, (some .int), 2, 3),
  (yX4_sheet, cX4_sheet, 5, (some .int), 3, 3),
  (yX4_write, cX4_write, 4, (some .int), 3, 3),
  (yX4_copy, cX4_copy, 6, (some .int), 5, 3),
  (yX4_load, cX4_load, 5, (some .int), 1, 3),
  (yX4_judge, cX4_judge, 4, (some .int), 1, 3),
  (yX4_image, cX4_image, 1, (some .int), 0, 3),
  (yX4_undo, cX4_undo, 1, (some .int), 0, 3),
  (yX4_tear, cX4_tear, 2, (some .int), 0, 3),
  (yX4_count, cX4_count, 2, (some .int), 1, 3),
  (yX4_status, cX4_status, 4, (some .int), 1, 3),
  (yX5_finding, cX5_finding, 2, (some .int), 1, 4),
  (yX5_within, cX5_within, 3, (some .boolean), 3, 9),
  (yX5_become, cX5_become, 4, (some .int), 2, 4),
  (yX5_copyRow, cX5_copyRow, 3, none, 2, 9)]
def ts_ML3 : List ts_M := [(yX5_putBack, cX5_putBack, 2, (some .int), 1, 4),
  (yX5_orNone, cX5_orNone, 2, (some .int), 1, 4),
  (yX5_bits, cX5_bits, 3, (some .int), 1, 9),
  (yX5_isSet, cX5_isSet, 1, (some .boolean), 1, 9),
  (yX5_isWordNumber, cX5_isWordNumber, 1, (some .boolean), 1, 9),
  (yX5_isPlace, cX5_isPlace, 1, (some .boolean), 1, 9),
  (yX5_list, cX5_list, 4, (some .int), 3, 4),
  (yX5_listed, cX5_listed, 2, (some .int), 1, 4),
  (yX5_placeNow, cX5_placeNow, 1, (some .int), 0, 4),
  (yX5_sillAt, cX5_sillAt, 2, (some .int), 2, 9),
  (yX5_sillIs, cX5_sillIs, 3, (some .int), 2, 4),
  (yX5_isSill, cX5_isSill, 2, (some .boolean), 1, 4),
  (yX5_personAt, cX5_personAt, 2, (some .int), 2, 9),
  (yX5_personIs, cX5_personIs, 3, (some .int), 2, 4),
  (yX5_isPerson, cX5_isPerson, 2, (some .boolean), 1, 4),
  (yX5_isKind, cX5_isKind, 1, (some .boolean), 1, 9),
  (yX5_comes, cX5_comes, 4, (some .int), 1, 4),
  (yX5_sill, cX5_sill, 2, (some .int), 1, 4),
  (yX5_onePersonMore, cX5_onePersonMore, 3, (some .int), 1, 4),
  (yX5_person, cX5_person, 2, (some .int), 1, 4),
  (yX5_holds, cX5_holds, 2, (some .int), 1, 4),
  (yX5_keptSet, cX5_keptSet, 4, (some .int), 1, 4),
  (yX5_givesFrom, cX5_givesFrom, 4, (some .int), 1, 4),
  (yX5_gives, cX5_gives, 3, (some .int), 1, 4),
  (yX5_greatest, cX5_greatest, 2, (some .int), 1, 9),
  (yX5_least, cX5_least, 2, (some .int), 1, 9),
  (yX5_takesOf, cX5_takesOf, 5, (some .int), 2, 4),
  (yX5_told, cX5_told, 3, (some .int), 2, 4),
  (yX5_of, cX5_of, 3, (some .int), 2, 4),
  (yX5_word, cX5_word, 3, (some .int), 2, 4),
  (yX5_change, cX5_change, 5, (some .int), 3, 4),
  (yX5_lays, cX5_lays, 3, (some .int), 2, 4),
  (yX5_lay, cX5_lay, 3, (some .int), 2, 4),
  (yX5_ofPerson, cX5_ofPerson, 3, (some .int), 2, 4),
  (yX5_send, cX5_send, 5, (some .int), 3, 4),
  (yX5_takes, cX5_takes, 3, (some .int), 2, 4),
  (yX5_more, cX5_more, 4, none, 3, 4),
  (yX5_mayCross, cX5_mayCross, 4, (some .boolean), 2, 4),
  (yX5_goesIn, cX5_goesIn, 4, (some .int), 2, 4),
  (yX5_comesOut, cX5_comesOut, 6, (some .int), 2, 4)]
def ts_ML4 : List ts_M := [(yX5_crosses, cX5_crosses, 4, (some .int), 2, 4),
  (yX5_cross, cX5_cross, 3, (some .int), 2, 4),
  (yX5_day, cX5_day, 3, none, 0, 4),
  (yX5_daysGo, cX5_daysGo, 3, none, 1, 4),
  (yX5_go, cX5_go, 2, (some .int), 1, 4),
  (yX5_sumOf, cX5_sumOf, 4, (some .int), 1, 4),
  (yX5_heard, cX5_heard, 3, (some .int), 0, 4),
  (yX5_allKept, cX5_allKept, 3, (some .int), 0, 4),
  (yX5_inside, cX5_inside, 3, (some .int), 0, 4),
  (yX5_muteOnes, cX5_muteOnes, 3, (some .int), 0, 4),
  (yX5_now, cX5_now, 2, (some .int), 1, 4),
  (yX5_behind, cX5_behind, 3, (some .int), 2, 4),
  (yX5_ahead, cX5_ahead, 5, (some .int), 3, 4),
  (yX5_later, cX5_later, 4, (some .int), 3, 4),
  (yX5_hasWord, cX5_hasWord, 3, (some .boolean), 2, 4),
  (yX5_hears, cX5_hears, 4, (some .int), 2, 4),
  (yX5_daysTo, cX5_daysTo, 5, (some .int), 3, 4),
  (yX5_waste, cX5_waste, 2, (some .int), 1, 4),
  (yX5_mute, cX5_mute, 2, (some .int), 1, 4),
  (yX5_isThought, cX5_isThought, 1, (some .boolean), 1, 9),
  (yX5_leastLost, cX5_leastLost, 10, (some .int), 4, 4),
  (yX5_sillFor, cX5_sillFor, 3, (some .int), 2, 4),
  (yX5_kindFor, cX5_kindFor, 3, (some .int), 2, 4),
  (yX5_wordFor, cX5_wordFor, 9, (some .int), 3, 4),
  (yX5_staysAway, cX5_staysAway, 6, (some .boolean), 4, 4),
  (yX5_mend, cX5_mend, 6, (some .int), 3, 4),
  (yX5_seek, cX5_seek, 5, (some .int), 2, 4),
  (yX5_isSheet, cX5_isSheet, 1, (some .boolean), 1, 9),
  (yX5_lacks, cX5_lacks, 3, (some .int), 2, 4),
  (yX5_isSo, cX5_isSo, 6, (some .boolean), 2, 4),
  (yX5_fits, cX5_fits, 8, (some .int), 2, 4),
  (yX5_kinds, cX5_kinds, 8, (some .int), 2, 4),
  (yX5_drawn, cX5_drawn, 1, (some .int), 0, 4),
  (yX5_stroll, cX5_stroll, 5, (some .int), 1, 4),
  (yX5_odds, cX5_odds, 10, (some .long), 3, 4),
  (yX5_seed, cX5_seed, 2, (some .int), 1, 4),
  (yX5_feed, cX5_feed, 4, (some .int), 2, 4),
  (yX5_wipe, cX5_wipe, 2, (some .int), 0, 4),
  (yX5_byteAt, cX5_byteAt, 2, (some .int), 1, 4),
  (yX5_token, cX5_token, 2, none, 0, 4)]
def ts_ML5 : List ts_M := [(yX5_isWord, cX5_isWord, 4, (some .boolean), 1, 4),
  (yX5_must, cX5_must, 2, none, 1, 4),
  (yX5_number, cX5_number, 4, (some .int), 2, 4),
  (yX5_takesWord, cX5_takesWord, 3, (some .boolean), 1, 4),
  (yX5_readSill, cX5_readSill, 4, none, 2, 4),
  (yX5_readPerson, cX5_readPerson, 2, none, 1, 4),
  (yX5_readItem, cX5_readItem, 4, none, 0, 4),
  (yX5_isToldSo, cX5_isToldSo, 6, none, 1, 4),
  (yX5_text, cX5_text, 2, (some .int), 0, 4),
  (yX5_isSpot, cX5_isSpot, 1, (some .boolean), 1, 9),
  (yX5_hold, cX5_hold, 3, (some .int), 2, 4),
  (yX5_above, cX5_above, 1, (some .int), 1, 9),
  (yX5_isUnder, cX5_isUnder, 3, (some .boolean), 2, 9),
  (yX5_as, cX5_as, 4, (some .int), 2, 4),
  (yX5_cutTo, cX5_cutTo, 2, (some .int), 2, 9),
  (yX5_sheet, cX5_sheet, 5, (some .int), 3, 4),
  (yX5_write, cX5_write, 4, (some .int), 3, 4),
  (yX5_copy, cX5_copy, 7, (some .int), 5, 4),
  (yX5_load, cX5_load, 3, (some .int), 1, 4),
  (yX5_judge, cX5_judge, 4, (some .int), 1, 4),
  (yX5_image, cX5_image, 1, (some .int), 0, 4),
  (yX5_undo, cX5_undo, 1, (some .int), 0, 4),
  (yX5_tear, cX5_tear, 2, (some .int), 0, 4),
  (yX5_count, cX5_count, 4, (some .int), 1, 4),
  (yX5_status, cX5_status, 2, (some .int), 1, 4)]
def ts_ML : List (List ts_M) := [ts_ML0, ts_ML1, ts_ML2, ts_ML3, ts_ML4, ts_ML5]
def ts_mi (z : Nat) : ts_M := match ts_ML[z / 40]? with
  | some L => L.getD (z % 40) (yX4_tell, cX4_tell, 0, none, 0, 0)
  | none => (yX4_tell, cX4_tell, 0, none, 0, 0)
def ts_mwb (mi : ts_M) (q1 q2 q3 q4 : Nat) : Bool := (ts_wx q1 (.code mi.1 mi.2.1 mi.2.2.1 mi.2.2.2.1) && ts_wx q2 (.initialized mi.1.cls)) && ((decide (mi.1.cls ≠ "java/lang/invoke/MethodHandle") && (decide (mi.1.cls ≠ "java/lang/invoke/VarHandle") && decide ((parseMethodDescriptor mi.1.desc).map (fun d => d.parameters.length) = some mi.2.2.2.2.1))) && (decide (mi.2.2.1 ≤ 20) && cond (mi.2.2.2.2.2 == 9) (ts_wx q3 (.static mi.1)) (decide (mi.2.2.2.2.2 < 5 ∨ mi.2.2.2.2.2 = 8) && (decide (ts_cn mi.2.2.2.2.2 = mi.1.cls) && (ts_wx q3 (.instanceMethod mi.1) && ts_wx q4 (.selects mi.1.cls mi.1 mi.1))))))
theorem ts_mw_of {mi : ts_M} {q1 q2 q3 q4 : Nat} (h : ts_mwb mi q1 q2 q3 q4 = true) : ts_mw mi := by
  unfold ts_mwb at h
  rw [Bool.and_eq_true, Bool.and_eq_true, Bool.and_eq_true, Bool.and_eq_true, Bool.and_eq_true, Bool.and_eq_true] at h
  obtain ⟨⟨h1, h2⟩, ⟨h3, h4, h5⟩, h6, h7⟩ := h
  refine ⟨⟨ts_wx_in h1, ts_wx_in h2⟩, ⟨of_decide_eq_true h3, of_decide_eq_true h4, of_decide_eq_true h5⟩, of_decide_eq_true h6, ?_⟩
  cases hk : (mi.2.2.2.2.2 == 9) with
  | true =>
    rw [hk] at h7
    exact Or.inl ⟨eq_of_beq hk, ts_wx_in h7⟩
  | false =>
    rw [hk] at h7
    have h7 : (decide (mi.2.2.2.2.2 < 5 ∨ mi.2.2.2.2.2 = 8) && (decide (ts_cn mi.2.2.2.2.2 = mi.1.cls) && (ts_wx q3 (.instanceMethod mi.1) && ts_wx q4 (.selects mi.1.cls mi.1 mi.1)))) = true := h7
    rw [Bool.and_eq_true, Bool.and_eq_true, Bool.and_eq_true] at h7
    exact Or.inr ⟨of_decide_eq_true h7.1, of_decide_eq_true h7.2.1, ts_wx_in h7.2.2.1, ts_wx_in h7.2.2.2⟩
theorem mw_0 : ts_mw (ts_mi 0) := ts_mw_of (q1 := 3142) (q2 := 1006) (q3 := 3141) (q4 := 0) (by decide +kernel)
theorem mw_1 : ts_mw (ts_mi 1) := ts_mw_of (q1 := 3139) (q2 := 1006) (q3 := 3138) (q4 := 0) (by decide +kernel)
theorem mw_2 : ts_mw (ts_mi 2) := ts_mw_of (q1 := 3107) (q2 := 1006) (q3 := 3106) (q4 := 0) (by decide +kernel)
theorem mw_3 : ts_mw (ts_mi 3) := ts_mw_of (q1 := 3041) (q2 := 1010) (q3 := 3039) (q4 := 3040) (by decide +kernel)
theorem mw_4 : ts_mw (ts_mi 4) := ts_mw_of (q1 := 3051) (q2 := 1010) (q3 := 3049) (q4 := 3050) (by decide +kernel)
theorem mw_5 : ts_mw (ts_mi 5) := ts_mw_of (q1 := 3037) (q2 := 1003) (q3 := 3035) (q4 := 3036) (by decide +kernel)
theorem mw_6 : ts_mw (ts_mi 6) := ts_mw_of (q1 := 3104) (q2 := 1006) (q3 := 3103) (q4 := 0) (by decide +kernel)
theorem mw_7 : ts_mw (ts_mi 7) := ts_mw_of (q1 := 1211) (q2 := 1006) (q3 := 1210) (q4 := 0) (by decide +kernel)
theorem mw_8 : ts_mw (ts_mi 8) := ts_mw_of (q1 := 2033) (q2 := 1006) (q3 := 2032) (q4 := 0) (by decide +kernel)
theorem mw_9 : ts_mw (ts_mi 9) := ts_mw_of (q1 := 2036) (q2 := 1006) (q3 := 2035) (q4 := 0) (by decide +kernel)
theorem mw_10 : ts_mw (ts_mi 10) := ts_mw_of (q1 := 2030) (q2 := 1006) (q3 := 2029) (q4 := 0) (by decide +kernel)
theorem mw_11 : ts_mw (ts_mi 11) := ts_mw_of (q1 := 1222) (q2 := 1006) (q3 := 1221) (q4 := 0) (by decide +kernel)
theorem mw_12 : ts_mw (ts_mi 12) := ts_mw_of (q1 := 2134) (q2 := 1002) (q3 := 2132) (q4 := 2133) (by decide +kernel)
theorem mw_13 : ts_mw (ts_mi 13) := ts_mw_of (q1 := 1167) (q2 := 1001) (q3 := 1166) (q4 := 0) (by decide +kernel)
theorem mw_14 : ts_mw (ts_mi 14) := ts_mw_of (q1 := 1203) (q2 := 1002) (q3 := 1201) (q4 := 1202) (by decide +kernel)
theorem mw_15 : ts_mw (ts_mi 15) := ts_mw_of (q1 := 2014) (q2 := 1002) (q3 := 2012) (q4 := 2013) (by decide +kernel)
theorem mw_16 : ts_mw (ts_mi 16) := ts_mw_of (q1 := 2077) (q2 := 1002) (q3 := 2075) (q4 := 2076) (by decide +kernel)
theorem mw_17 : ts_mw (ts_mi 17) := ts_mw_of (q1 := 1184) (q2 := 1002) (q3 := 1182) (q4 := 1183) (by decide +kernel)
theorem mw_18 : ts_mw (ts_mi 18) := ts_mw_of (q1 := 1195) (q2 := 1002) (q3 := 1193) (q4 := 1194) (by decide +kernel)
theorem mw_19 : ts_mw (ts_mi 19) := ts_mw_of (q1 := 1226) (q2 := 1002) (q3 := 1224) (q4 := 1225) (by decide +kernel)
theorem mw_20 : ts_mw (ts_mi 20) := ts_mw_of (q1 := 1215) (q2 := 1002) (q3 := 1213) (q4 := 1214) (by decide +kernel)
theorem mw_21 : ts_mw (ts_mi 21) := ts_mw_of (q1 := 2006) (q2 := 1002) (q3 := 2004) (q4 := 2005) (by decide +kernel)
theorem mw_22 : ts_mw (ts_mi 22) := ts_mw_of (q1 := 2073) (q2 := 1002) (q3 := 2072) (q4 := 5) (by decide +kernel)
theorem mw_23 : ts_mw (ts_mi 23) := ts_mw_of (q1 := 1219) (q2 := 1002) (q3 := 1218) (q4 := 1) (by decide +kernel)
theorem mw_24 : ts_mw (ts_mi 24) := ts_mw_of (q1 := 1208) (q2 := 1002) (q3 := 1206) (q4 := 1207) (by decide +kernel)
theorem mw_25 : ts_mw (ts_mi 25) := ts_mw_of (q1 := 2018) (q2 := 1002) (q3 := 2016) (q4 := 2017) (by decide +kernel)
theorem mw_26 : ts_mw (ts_mi 26) := ts_mw_of (q1 := 2044) (q2 := 1002) (q3 := 2042) (q4 := 2043) (by decide +kernel)
theorem mw_27 : ts_mw (ts_mi 27) := ts_mw_of (q1 := 2065) (q2 := 1007) (q3 := 2064) (q4 := 0) (by decide +kernel)
theorem mw_28 : ts_mw (ts_mi 28) := ts_mw_of (q1 := 2061) (q2 := 1002) (q3 := 2060) (q4 := 3) (by decide +kernel)
theorem mw_29 : ts_mw (ts_mi 29) := ts_mw_of (q1 := 2055) (q2 := 1002) (q3 := 2054) (q4 := 2) (by decide +kernel)
theorem mw_30 : ts_mw (ts_mi 30) := ts_mw_of (q1 := 2069) (q2 := 1002) (q3 := 2068) (q4 := 4) (by decide +kernel)
theorem mw_31 : ts_mw (ts_mi 31) := ts_mw_of (q1 := 2048) (q2 := 1002) (q3 := 2046) (q4 := 2047) (by decide +kernel)
theorem mw_32 : ts_mw (ts_mi 32) := ts_mw_of (q1 := 2093) (q2 := 1007) (q3 := 2092) (q4 := 0) (by decide +kernel)
theorem mw_33 : ts_mw (ts_mi 33) := ts_mw_of (q1 := 2090) (q2 := 1002) (q3 := 2088) (q4 := 2089) (by decide +kernel)
theorem mw_34 : ts_mw (ts_mi 34) := ts_mw_of (q1 := 2086) (q2 := 1002) (q3 := 2084) (q4 := 2085) (by decide +kernel)
theorem mw_35 : ts_mw (ts_mi 35) := ts_mw_of (q1 := 2222) (q2 := 1002) (q3 := 2220) (q4 := 2221) (by decide +kernel)
theorem mw_36 : ts_mw (ts_mi 36) := ts_mw_of (q1 := 2102) (q2 := 1002) (q3 := 2100) (q4 := 2101) (by decide +kernel)
theorem mw_37 : ts_mw (ts_mi 37) := ts_mw_of (q1 := 2106) (q2 := 1002) (q3 := 2104) (q4 := 2105) (by decide +kernel)
theorem mw_38 : ts_mw (ts_mi 38) := ts_mw_of (q1 := 2110) (q2 := 1002) (q3 := 2108) (q4 := 2109) (by decide +kernel)
theorem mw_39 : ts_mw (ts_mi 39) := ts_mw_of (q1 := 2114) (q2 := 1002) (q3 := 2112) (q4 := 2113) (by decide +kernel)
theorem mw_40 : ts_mw (ts_mi 40) := ts_mw_of (q1 := 2118) (q2 := 1002) (q3 := 2116) (q4 := 2117) (by decide +kernel)
theorem mw_41 : ts_mw (ts_mi 41) := ts_mw_of (q1 := 2122) (q2 := 1002) (q3 := 2120) (q4 := 2121) (by decide +kernel)
theorem mw_42 : ts_mw (ts_mi 42) := ts_mw_of (q1 := 3204) (q2 := 1002) (q3 := 3202) (q4 := 3203) (by decide +kernel)
theorem mw_43 : ts_mw (ts_mi 43) := ts_mw_of (q1 := 2193) (q2 := 1004) (q3 := 2191) (q4 := 2192) (by decide +kernel)
theorem mw_44 : ts_mw (ts_mi 44) := ts_mw_of (q1 := 3150) (q2 := 1004) (q3 := 3148) (q4 := 3149) (by decide +kernel)
theorem mw_45 : ts_mw (ts_mi 45) := ts_mw_of (q1 := 2206) (q2 := 1004) (q3 := 2204) (q4 := 2205) (by decide +kernel)
theorem mw_46 : ts_mw (ts_mi 46) := ts_mw_of (q1 := 3161) (q2 := 1004) (q3 := 3160) (q4 := 0) (by decide +kernel)
theorem mw_47 : ts_mw (ts_mi 47) := ts_mw_of (q1 := 3158) (q2 := 1004) (q3 := 3156) (q4 := 3157) (by decide +kernel)
theorem mw_48 : ts_mw (ts_mi 48) := ts_mw_of (q1 := 3169) (q2 := 1004) (q3 := 3167) (q4 := 3168) (by decide +kernel)
theorem mw_49 : ts_mw (ts_mi 49) := ts_mw_of (q1 := 3173) (q2 := 1004) (q3 := 3171) (q4 := 3172) (by decide +kernel)
theorem mw_50 : ts_mw (ts_mi 50) := ts_mw_of (q1 := 2202) (q2 := 1004) (q3 := 2200) (q4 := 2201) (by decide +kernel)
theorem mw_51 : ts_mw (ts_mi 51) := ts_mw_of (q1 := 3005) (q2 := 1003) (q3 := 3003) (q4 := 3004) (by decide +kernel)
theorem mw_52 : ts_mw (ts_mi 52) := ts_mw_of (q1 := 3024) (q2 := 1003) (q3 := 3023) (q4 := 0) (by decide +kernel)
theorem mw_53 : ts_mw (ts_mi 53) := ts_mw_of (q1 := 3027) (q2 := 1003) (q3 := 3026) (q4 := 0) (by decide +kernel)
theorem mw_54 : ts_mw (ts_mi 54) := ts_mw_of (q1 := 3021) (q2 := 1003) (q3 := 3020) (q4 := 10) (by decide +kernel)
theorem mw_55 : ts_mw (ts_mi 55) := ts_mw_of (q1 := 3095) (q2 := 1003) (q3 := 3094) (q4 := 13) (by decide +kernel)
theorem mw_56 : ts_mw (ts_mi 56) := ts_mw_of (q1 := 3089) (q2 := 1003) (q3 := 3088) (q4 := 12) (by decide +kernel)
theorem mw_57 : ts_mw (ts_mi 57) := ts_mw_of (q1 := 3101) (q2 := 1003) (q3 := 3100) (q4 := 14) (by decide +kernel)
theorem mw_58 : ts_mw (ts_mi 58) := ts_mw_of (q1 := 3125) (q2 := 1003) (q3 := 3124) (q4 := 16) (by decide +kernel)
theorem mw_59 : ts_mw (ts_mi 59) := ts_mw_of (q1 := 3119) (q2 := 1003) (q3 := 3118) (q4 := 15) (by decide +kernel)
theorem mw_60 : ts_mw (ts_mi 60) := ts_mw_of (q1 := 3032) (q2 := 1003) (q3 := 3031) (q4 := 11) (by decide +kernel)
theorem mw_61 : ts_mw (ts_mi 61) := ts_mw_of (q1 := 3017) (q2 := 1003) (q3 := 3015) (q4 := 3016) (by decide +kernel)
theorem mw_62 : ts_mw (ts_mi 62) := ts_mw_of (q1 := 1171) (q2 := 1001) (q3 := 1170) (q4 := 0) (by decide +kernel)
theorem mw_63 : ts_mw (ts_mi 63) := ts_mw_of (q1 := 1164) (q2 := 1001) (q3 := 1162) (q4 := 1163) (by decide +kernel)
theorem mw_64 : ts_mw (ts_mi 64) := ts_mw_of (q1 := 1176) (q2 := 1001) (q3 := 1174) (q4 := 1175) (by decide +kernel)
theorem mw_65 : ts_mw (ts_mi 65) := ts_mw_of (q1 := 1180) (q2 := 1001) (q3 := 1178) (q4 := 1179) (by decide +kernel)
theorem mw_66 : ts_mw (ts_mi 66) := ts_mw_of (q1 := 1191) (q2 := 1001) (q3 := 1190) (q4 := 0) (by decide +kernel)
theorem mw_67 : ts_mw (ts_mi 67) := ts_mw_of (q1 := 1188) (q2 := 1001) (q3 := 1186) (q4 := 1187) (by decide +kernel)
theorem mw_68 : ts_mw (ts_mi 68) := ts_mw_of (q1 := 1199) (q2 := 1001) (q3 := 1197) (q4 := 1198) (by decide +kernel)
theorem mw_69 : ts_mw (ts_mi 69) := ts_mw_of (q1 := 1230) (q2 := 1001) (q3 := 1228) (q4 := 1229) (by decide +kernel)
theorem mw_70 : ts_mw (ts_mi 70) := ts_mw_of (q1 := 1238) (q2 := 1001) (q3 := 1237) (q4 := 0) (by decide +kernel)
theorem mw_71 : ts_mw (ts_mi 71) := ts_mw_of (q1 := 1235) (q2 := 1001) (q3 := 1233) (q4 := 1234) (by decide +kernel)
theorem mw_72 : ts_mw (ts_mi 72) := ts_mw_of (q1 := 2002) (q2 := 1001) (q3 := 2000) (q4 := 2001) (by decide +kernel)
theorem mw_73 : ts_mw (ts_mi 73) := ts_mw_of (q1 := 2010) (q2 := 1001) (q3 := 2008) (q4 := 2009) (by decide +kernel)
theorem mw_74 : ts_mw (ts_mi 74) := ts_mw_of (q1 := 2022) (q2 := 1001) (q3 := 2020) (q4 := 2021) (by decide +kernel)
theorem mw_75 : ts_mw (ts_mi 75) := ts_mw_of (q1 := 2026) (q2 := 1001) (q3 := 2024) (q4 := 2025) (by decide +kernel)
theorem mw_76 : ts_mw (ts_mi 76) := ts_mw_of (q1 := 2040) (q2 := 1001) (q3 := 2038) (q4 := 2039) (by decide +kernel)
theorem mw_77 : ts_mw (ts_mi 77) := ts_mw_of (q1 := 2081) (q2 := 1001) (q3 := 2079) (q4 := 2080) (by decide +kernel)
theorem mw_78 : ts_mw (ts_mi 78) := ts_mw_of (q1 := 2098) (q2 := 1001) (q3 := 2096) (q4 := 2097) (by decide +kernel)
theorem mw_79 : ts_mw (ts_mi 79) := ts_mw_of (q1 := 2130) (q2 := 1001) (q3 := 2129) (q4 := 6) (by decide +kernel)
theorem mw_80 : ts_mw (ts_mi 80) := ts_mw_of (q1 := 2126) (q2 := 1001) (q3 := 2124) (q4 := 2125) (by decide +kernel)
theorem mw_81 : ts_mw (ts_mi 81) := ts_mw_of (q1 := 2141) (q2 := 1001) (q3 := 2139) (q4 := 2140) (by decide +kernel)
theorem mw_82 : ts_mw (ts_mi 82) := ts_mw_of (q1 := 2145) (q2 := 1001) (q3 := 2143) (q4 := 2144) (by decide +kernel)
theorem mw_83 : ts_mw (ts_mi 83) := ts_mw_of (q1 := 2150) (q2 := 1001) (q3 := 2148) (q4 := 2149) (by decide +kernel)
theorem mw_84 : ts_mw (ts_mi 84) := ts_mw_of (q1 := 2154) (q2 := 1001) (q3 := 2152) (q4 := 2153) (by decide +kernel)
theorem mw_85 : ts_mw (ts_mi 85) := ts_mw_of (q1 := 2158) (q2 := 1001) (q3 := 2156) (q4 := 2157) (by decide +kernel)
theorem mw_86 : ts_mw (ts_mi 86) := ts_mw_of (q1 := 2163) (q2 := 1001) (q3 := 2161) (q4 := 2162) (by decide +kernel)
theorem mw_87 : ts_mw (ts_mi 87) := ts_mw_of (q1 := 2167) (q2 := 1001) (q3 := 2165) (q4 := 2166) (by decide +kernel)
theorem mw_88 : ts_mw (ts_mi 88) := ts_mw_of (q1 := 2174) (q2 := 1009) (q3 := 2173) (q4 := 0) (by decide +kernel)
theorem mw_89 : ts_mw (ts_mi 89) := ts_mw_of (q1 := 2181) (q2 := 1001) (q3 := 2180) (q4 := 7) (by decide +kernel)
theorem mw_90 : ts_mw (ts_mi 90) := ts_mw_of (q1 := 2171) (q2 := 1001) (q3 := 2169) (q4 := 2170) (by decide +kernel)
theorem mw_91 : ts_mw (ts_mi 91) := ts_mw_of (q1 := 2185) (q2 := 1001) (q3 := 2183) (q4 := 2184) (by decide +kernel)
theorem mw_92 : ts_mw (ts_mi 92) := ts_mw_of (q1 := 2198) (q2 := 1001) (q3 := 2197) (q4 := 8) (by decide +kernel)
theorem mw_93 : ts_mw (ts_mi 93) := ts_mw_of (q1 := 2189) (q2 := 1001) (q3 := 2187) (q4 := 2188) (by decide +kernel)
theorem mw_94 : ts_mw (ts_mi 94) := ts_mw_of (q1 := 2214) (q2 := 1001) (q3 := 2213) (q4 := 9) (by decide +kernel)
theorem mw_95 : ts_mw (ts_mi 95) := ts_mw_of (q1 := 2210) (q2 := 1001) (q3 := 2208) (q4 := 2209) (by decide +kernel)
theorem mw_96 : ts_mw (ts_mi 96) := ts_mw_of (q1 := 2218) (q2 := 1001) (q3 := 2216) (q4 := 2217) (by decide +kernel)
theorem mw_97 : ts_mw (ts_mi 97) := ts_mw_of (q1 := 2230) (q2 := 1001) (q3 := 2229) (q4 := 0) (by decide +kernel)
theorem mw_98 : ts_mw (ts_mi 98) := ts_mw_of (q1 := 2233) (q2 := 1001) (q3 := 2232) (q4 := 0) (by decide +kernel)
theorem mw_99 : ts_mw (ts_mi 99) := ts_mw_of (q1 := 2227) (q2 := 1001) (q3 := 2225) (q4 := 2226) (by decide +kernel)
theorem mw_100 : ts_mw (ts_mi 100) := ts_mw_of (q1 := 2237) (q2 := 1001) (q3 := 2235) (q4 := 2236) (by decide +kernel)
theorem mw_101 : ts_mw (ts_mi 101) := ts_mw_of (q1 := 3001) (q2 := 1001) (q3 := 2239) (q4 := 3000) (by decide +kernel)
theorem mw_102 : ts_mw (ts_mi 102) := ts_mw_of (q1 := 3009) (q2 := 1001) (q3 := 3007) (q4 := 3008) (by decide +kernel)
theorem mw_103 : ts_mw (ts_mi 103) := ts_mw_of (q1 := 3013) (q2 := 1001) (q3 := 3011) (q4 := 3012) (by decide +kernel)
theorem mw_104 : ts_mw (ts_mi 104) := ts_mw_of (q1 := 3132) (q2 := 1001) (q3 := 3130) (q4 := 3131) (by decide +kernel)
theorem mw_105 : ts_mw (ts_mi 105) := ts_mw_of (q1 := 3136) (q2 := 1001) (q3 := 3134) (q4 := 3135) (by decide +kernel)
theorem mw_106 : ts_mw (ts_mi 106) := ts_mw_of (q1 := 3146) (q2 := 1001) (q3 := 3144) (q4 := 3145) (by decide +kernel)
theorem mw_107 : ts_mw (ts_mi 107) := ts_mw_of (q1 := 3154) (q2 := 1001) (q3 := 3152) (q4 := 3153) (by decide +kernel)
theorem mw_108 : ts_mw (ts_mi 108) := ts_mw_of (q1 := 3165) (q2 := 1001) (q3 := 3163) (q4 := 3164) (by decide +kernel)
theorem mw_109 : ts_mw (ts_mi 109) := ts_mw_of (q1 := 3178) (q2 := 1001) (q3 := 3176) (q4 := 3177) (by decide +kernel)
theorem mw_110 : ts_mw (ts_mi 110) := ts_mw_of (q1 := 3184) (q2 := 1001) (q3 := 3182) (q4 := 3183) (by decide +kernel)
theorem mw_111 : ts_mw (ts_mi 111) := ts_mw_of (q1 := 3188) (q2 := 1001) (q3 := 3186) (q4 := 3187) (by decide +kernel)
theorem mw_112 : ts_mw (ts_mi 112) := ts_mw_of (q1 := 3192) (q2 := 1001) (q3 := 3190) (q4 := 3191) (by decide +kernel)
theorem mw_113 : ts_mw (ts_mi 113) := ts_mw_of (q1 := 3196) (q2 := 1001) (q3 := 3194) (q4 := 3195) (by decide +kernel)
theorem mw_114 : ts_mw (ts_mi 114) := ts_mw_of (q1 := 3200) (q2 := 1001) (q3 := 3198) (q4 := 3199) (by decide +kernel)
theorem mw_115 : ts_mw (ts_mi 115) := ts_mw_of (q1 := 3208) (q2 := 1001) (q3 := 3206) (q4 := 3207) (by decide +kernel)
theorem mw_116 : ts_mw (ts_mi 116) := ts_mw_of (q1 := 4066) (q2 := 1005) (q3 := 4065) (q4 := 18) (by decide +kernel)
theorem mw_117 : ts_mw (ts_mi 117) := ts_mw_of (q1 := 4057) (q2 := 1005) (q3 := 4056) (q4 := 0) (by decide +kernel)
theorem mw_118 : ts_mw (ts_mi 118) := ts_mw_of (q1 := 4061) (q2 := 1005) (q3 := 4060) (q4 := 17) (by decide +kernel)
theorem mw_119 : ts_mw (ts_mi 119) := ts_mw_of (q1 := 5019) (q2 := 1005) (q3 := 5018) (q4 := 0) (by decide +kernel)
theorem mw_120 : ts_mw (ts_mi 120) := ts_mw_of (q1 := 5023) (q2 := 1005) (q3 := 5022) (q4 := 46) (by decide +kernel)
theorem mw_121 : ts_mw (ts_mi 121) := ts_mw_of (q1 := 4185) (q2 := 1005) (q3 := 4184) (q4 := 32) (by decide +kernel)
theorem mw_122 : ts_mw (ts_mi 122) := ts_mw_of (q1 := 5078) (q2 := 1005) (q3 := 5077) (q4 := 0) (by decide +kernel)
theorem mw_123 : ts_mw (ts_mi 123) := ts_mw_of (q1 := 4092) (q2 := 1005) (q3 := 4091) (q4 := 0) (by decide +kernel)
theorem mw_124 : ts_mw (ts_mi 124) := ts_mw_of (q1 := 4147) (q2 := 1005) (q3 := 4146) (q4 := 0) (by decide +kernel)
theorem mw_125 : ts_mw (ts_mi 125) := ts_mw_of (q1 := 4054) (q2 := 1005) (q3 := 4053) (q4 := 0) (by decide +kernel)
theorem mw_126 : ts_mw (ts_mi 126) := ts_mw_of (q1 := 4051) (q2 := 1005) (q3 := 4049) (q4 := 4050) (by decide +kernel)
theorem mw_127 : ts_mw (ts_mi 127) := ts_mw_of (q1 := 4070) (q2 := 1005) (q3 := 4068) (q4 := 4069) (by decide +kernel)
theorem mw_128 : ts_mw (ts_mi 128) := ts_mw_of (q1 := 4228) (q2 := 1005) (q3 := 4227) (q4 := 40) (by decide +kernel)
theorem mw_129 : ts_mw (ts_mi 129) := ts_mw_of (q1 := 4085) (q2 := 1005) (q3 := 4084) (q4 := 0) (by decide +kernel)
theorem mw_130 : ts_mw (ts_mi 130) := ts_mw_of (q1 := 4115) (q2 := 1005) (q3 := 4114) (q4 := 23) (by decide +kernel)
theorem mw_131 : ts_mw (ts_mi 131) := ts_mw_of (q1 := 4107) (q2 := 1005) (q3 := 4106) (q4 := 21) (by decide +kernel)
theorem mw_132 : ts_mw (ts_mi 132) := ts_mw_of (q1 := 4099) (q2 := 1005) (q3 := 4098) (q4 := 0) (by decide +kernel)
theorem mw_133 : ts_mw (ts_mi 133) := ts_mw_of (q1 := 4163) (q2 := 1005) (q3 := 4162) (q4 := 30) (by decide +kernel)
theorem mw_134 : ts_mw (ts_mi 134) := ts_mw_of (q1 := 4159) (q2 := 1005) (q3 := 4158) (q4 := 29) (by decide +kernel)
theorem mw_135 : ts_mw (ts_mi 135) := ts_mw_of (q1 := 4077) (q2 := 1005) (q3 := 4076) (q4 := 0) (by decide +kernel)
theorem mw_136 : ts_mw (ts_mi 136) := ts_mw_of (q1 := 4082) (q2 := 1005) (q3 := 4081) (q4 := 19) (by decide +kernel)
theorem mw_137 : ts_mw (ts_mi 137) := ts_mw_of (q1 := 4074) (q2 := 1005) (q3 := 4072) (q4 := 4073) (by decide +kernel)
theorem mw_138 : ts_mw (ts_mi 138) := ts_mw_of (q1 := 4096) (q2 := 1005) (q3 := 4095) (q4 := 20) (by decide +kernel)
theorem mw_139 : ts_mw (ts_mi 139) := ts_mw_of (q1 := 4089) (q2 := 1005) (q3 := 4087) (q4 := 4088) (by decide +kernel)
theorem mw_140 : ts_mw (ts_mi 140) := ts_mw_of (q1 := 4119) (q2 := 1005) (q3 := 4118) (q4 := 24) (by decide +kernel)
theorem mw_141 : ts_mw (ts_mi 141) := ts_mw_of (q1 := 4123) (q2 := 1005) (q3 := 4122) (q4 := 25) (by decide +kernel)
theorem mw_142 : ts_mw (ts_mi 142) := ts_mw_of (q1 := 4131) (q2 := 1005) (q3 := 4130) (q4 := 27) (by decide +kernel)
theorem mw_143 : ts_mw (ts_mi 143) := ts_mw_of (q1 := 4127) (q2 := 1005) (q3 := 4126) (q4 := 26) (by decide +kernel)
theorem mw_144 : ts_mw (ts_mi 144) := ts_mw_of (q1 := 4178) (q2 := 1005) (q3 := 4177) (q4 := 0) (by decide +kernel)
theorem mw_145 : ts_mw (ts_mi 145) := ts_mw_of (q1 := 4181) (q2 := 1005) (q3 := 4180) (q4 := 0) (by decide +kernel)
theorem mw_146 : ts_mw (ts_mi 146) := ts_mw_of (q1 := 4175) (q2 := 1005) (q3 := 4174) (q4 := 31) (by decide +kernel)
theorem mw_147 : ts_mw (ts_mi 147) := ts_mw_of (q1 := 4111) (q2 := 1005) (q3 := 4110) (q4 := 22) (by decide +kernel)
theorem mw_148 : ts_mw (ts_mi 148) := ts_mw_of (q1 := 4103) (q2 := 1005) (q3 := 4101) (q4 := 4102) (by decide +kernel)
theorem mw_149 : ts_mw (ts_mi 149) := ts_mw_of (q1 := 4135) (q2 := 1005) (q3 := 4133) (q4 := 4134) (by decide +kernel)
theorem mw_150 : ts_mw (ts_mi 150) := ts_mw_of (q1 := 4140) (q2 := 1005) (q3 := 4138) (q4 := 4139) (by decide +kernel)
theorem mw_151 : ts_mw (ts_mi 151) := ts_mw_of (q1 := 4151) (q2 := 1005) (q3 := 4150) (q4 := 28) (by decide +kernel)
theorem mw_152 : ts_mw (ts_mi 152) := ts_mw_of (q1 := 4144) (q2 := 1005) (q3 := 4142) (q4 := 4143) (by decide +kernel)
theorem mw_153 : ts_mw (ts_mi 153) := ts_mw_of (q1 := 4155) (q2 := 1005) (q3 := 4153) (q4 := 4154) (by decide +kernel)
theorem mw_154 : ts_mw (ts_mi 154) := ts_mw_of (q1 := 4167) (q2 := 1005) (q3 := 4165) (q4 := 4166) (by decide +kernel)
theorem mw_155 : ts_mw (ts_mi 155) := ts_mw_of (q1 := 4171) (q2 := 1005) (q3 := 4169) (q4 := 4170) (by decide +kernel)
theorem mw_156 : ts_mw (ts_mi 156) := ts_mw_of (q1 := 4206) (q2 := 1005) (q3 := 4205) (q4 := 36) (by decide +kernel)
theorem mw_157 : ts_mw (ts_mi 157) := ts_mw_of (q1 := 4193) (q2 := 1005) (q3 := 4192) (q4 := 33) (by decide +kernel)
theorem mw_158 : ts_mw (ts_mi 158) := ts_mw_of (q1 := 4201) (q2 := 1005) (q3 := 4200) (q4 := 35) (by decide +kernel)
theorem mw_159 : ts_mw (ts_mi 159) := ts_mw_of (q1 := 4211) (q2 := 1005) (q3 := 4210) (q4 := 37) (by decide +kernel)
theorem mw_160 : ts_mw (ts_mi 160) := ts_mw_of (q1 := 4197) (q2 := 1005) (q3 := 4196) (q4 := 34) (by decide +kernel)
theorem mw_161 : ts_mw (ts_mi 161) := ts_mw_of (q1 := 4189) (q2 := 1005) (q3 := 4187) (q4 := 4188) (by decide +kernel)
theorem mw_162 : ts_mw (ts_mi 162) := ts_mw_of (q1 := 4224) (q2 := 1005) (q3 := 4223) (q4 := 39) (by decide +kernel)
theorem mw_163 : ts_mw (ts_mi 163) := ts_mw_of (q1 := 4220) (q2 := 1005) (q3 := 4219) (q4 := 38) (by decide +kernel)
theorem mw_164 : ts_mw (ts_mi 164) := ts_mw_of (q1 := 4216) (q2 := 1005) (q3 := 4214) (q4 := 4215) (by decide +kernel)
theorem mw_165 : ts_mw (ts_mi 165) := ts_mw_of (q1 := 5012) (q2 := 1005) (q3 := 5011) (q4 := 45) (by decide +kernel)
theorem mw_166 : ts_mw (ts_mi 166) := ts_mw_of (q1 := 4236) (q2 := 1005) (q3 := 4235) (q4 := 41) (by decide +kernel)
theorem mw_167 : ts_mw (ts_mi 167) := ts_mw_of (q1 := 5000) (q2 := 1005) (q3 := 4239) (q4 := 42) (by decide +kernel)
theorem mw_168 : ts_mw (ts_mi 168) := ts_mw_of (q1 := 5004) (q2 := 1005) (q3 := 5003) (q4 := 43) (by decide +kernel)
theorem mw_169 : ts_mw (ts_mi 169) := ts_mw_of (q1 := 5008) (q2 := 1005) (q3 := 5007) (q4 := 44) (by decide +kernel)
theorem mw_170 : ts_mw (ts_mi 170) := ts_mw_of (q1 := 4232) (q2 := 1005) (q3 := 4230) (q4 := 4231) (by decide +kernel)
theorem mw_171 : ts_mw (ts_mi 171) := ts_mw_of (q1 := 5031) (q2 := 1005) (q3 := 5030) (q4 := 47) (by decide +kernel)
theorem mw_172 : ts_mw (ts_mi 172) := ts_mw_of (q1 := 5016) (q2 := 1005) (q3 := 5014) (q4 := 5015) (by decide +kernel)
theorem mw_173 : ts_mw (ts_mi 173) := ts_mw_of (q1 := 5027) (q2 := 1005) (q3 := 5025) (q4 := 5026) (by decide +kernel)
theorem mw_174 : ts_mw (ts_mi 174) := ts_mw_of (q1 := 5039) (q2 := 1005) (q3 := 5038) (q4 := 48) (by decide +kernel)
theorem mw_175 : ts_mw (ts_mi 175) := ts_mw_of (q1 := 5035) (q2 := 1005) (q3 := 5033) (q4 := 5034) (by decide +kernel)
theorem mw_176 : ts_mw (ts_mi 176) := ts_mw_of (q1 := 5047) (q2 := 1005) (q3 := 5046) (q4 := 49) (by decide +kernel)
theorem mw_177 : ts_mw (ts_mi 177) := ts_mw_of (q1 := 5043) (q2 := 1005) (q3 := 5041) (q4 := 5042) (by decide +kernel)
theorem mw_178 : ts_mw (ts_mi 178) := ts_mw_of (q1 := 5051) (q2 := 1005) (q3 := 5049) (q4 := 5050) (by decide +kernel)
theorem mw_179 : ts_mw (ts_mi 179) := ts_mw_of (q1 := 5058) (q2 := 1005) (q3 := 5057) (q4 := 0) (by decide +kernel)
theorem mw_180 : ts_mw (ts_mi 180) := ts_mw_of (q1 := 5062) (q2 := 1005) (q3 := 5061) (q4 := 50) (by decide +kernel)
theorem mw_181 : ts_mw (ts_mi 181) := ts_mw_of (q1 := 5055) (q2 := 1005) (q3 := 5053) (q4 := 5054) (by decide +kernel)
theorem mw_182 : ts_mw (ts_mi 182) := ts_mw_of (q1 := 5067) (q2 := 1005) (q3 := 5065) (q4 := 5066) (by decide +kernel)
theorem mw_183 : ts_mw (ts_mi 183) := ts_mw_of (q1 := 5071) (q2 := 1005) (q3 := 5069) (q4 := 5070) (by decide +kernel)
theorem mw_184 : ts_mw (ts_mi 184) := ts_mw_of (q1 := 5082) (q2 := 1005) (q3 := 5081) (q4 := 51) (by decide +kernel)
theorem mw_185 : ts_mw (ts_mi 185) := ts_mw_of (q1 := 5075) (q2 := 1005) (q3 := 5073) (q4 := 5074) (by decide +kernel)
theorem mw_186 : ts_mw (ts_mi 186) := ts_mw_of (q1 := 5086) (q2 := 1005) (q3 := 5084) (q4 := 5085) (by decide +kernel)
theorem mw_187 : ts_mw (ts_mi 187) := ts_mw_of (q1 := 5097) (q2 := 1005) (q3 := 5096) (q4 := 0) (by decide +kernel)
theorem mw_188 : ts_mw (ts_mi 188) := ts_mw_of (q1 := 5094) (q2 := 1005) (q3 := 5093) (q4 := 52) (by decide +kernel)
theorem mw_189 : ts_mw (ts_mi 189) := ts_mw_of (q1 := 5102) (q2 := 1005) (q3 := 5101) (q4 := 53) (by decide +kernel)
theorem mw_190 : ts_mw (ts_mi 190) := ts_mw_of (q1 := 5090) (q2 := 1005) (q3 := 5088) (q4 := 5089) (by decide +kernel)
theorem mw_191 : ts_mw (ts_mi 191) := ts_mw_of (q1 := 5106) (q2 := 1005) (q3 := 5104) (q4 := 5105) (by decide +kernel)
theorem mw_192 : ts_mw (ts_mi 192) := ts_mw_of (q1 := 5114) (q2 := 1005) (q3 := 5113) (q4 := 54) (by decide +kernel)
theorem mw_193 : ts_mw (ts_mi 193) := ts_mw_of (q1 := 5110) (q2 := 1005) (q3 := 5108) (q4 := 5109) (by decide +kernel)
theorem mw_194 : ts_mw (ts_mi 194) := ts_mw_of (q1 := 5119) (q2 := 1005) (q3 := 5117) (q4 := 5118) (by decide +kernel)
theorem mw_195 : ts_mw (ts_mi 195) := ts_mw_of (q1 := 5123) (q2 := 1005) (q3 := 5121) (q4 := 5122) (by decide +kernel)
theorem mw_196 : ts_mw (ts_mi 196) := ts_mw_of (q1 := 5127) (q2 := 1005) (q3 := 5125) (q4 := 5126) (by decide +kernel)
theorem mw_197 : ts_mw (ts_mi 197) := ts_mw_of (q1 := 5131) (q2 := 1005) (q3 := 5129) (q4 := 5130) (by decide +kernel)
theorem mw_198 : ts_mw (ts_mi 198) := ts_mw_of (q1 := 5143) (q2 := 1005) (q3 := 5142) (q4 := 56) (by decide +kernel)
theorem mw_199 : ts_mw (ts_mi 199) := ts_mw_of (q1 := 5139) (q2 := 1005) (q3 := 5138) (q4 := 55) (by decide +kernel)
theorem mw_200 : ts_mw (ts_mi 200) := ts_mw_of (q1 := 5151) (q2 := 1005) (q3 := 5150) (q4 := 58) (by decide +kernel)
theorem mw_201 : ts_mw (ts_mi 201) := ts_mw_of (q1 := 5161) (q2 := 1005) (q3 := 5160) (q4 := 60) (by decide +kernel)
theorem mw_202 : ts_mw (ts_mi 202) := ts_mw_of (q1 := 5170) (q2 := 1005) (q3 := 5169) (q4 := 62) (by decide +kernel)
theorem mw_203 : ts_mw (ts_mi 203) := ts_mw_of (q1 := 5166) (q2 := 1005) (q3 := 5165) (q4 := 61) (by decide +kernel)
theorem mw_204 : ts_mw (ts_mi 204) := ts_mw_of (q1 := 5157) (q2 := 1005) (q3 := 5156) (q4 := 59) (by decide +kernel)
theorem mw_205 : ts_mw (ts_mi 205) := ts_mw_of (q1 := 5176) (q2 := 1005) (q3 := 5175) (q4 := 63) (by decide +kernel)
theorem mw_206 : ts_mw (ts_mi 206) := ts_mw_of (q1 := 5147) (q2 := 1005) (q3 := 5146) (q4 := 57) (by decide +kernel)
theorem mw_207 : ts_mw (ts_mi 207) := ts_mw_of (q1 := 5183) (q2 := 1005) (q3 := 5182) (q4 := 64) (by decide +kernel)
theorem mw_208 : ts_mw (ts_mi 208) := ts_mw_of (q1 := 5135) (q2 := 1005) (q3 := 5133) (q4 := 5134) (by decide +kernel)
theorem mw_209 : ts_mw (ts_mi 209) := ts_mw_of (q1 := 5190) (q2 := 1005) (q3 := 5189) (q4 := 0) (by decide +kernel)
theorem mw_210 : ts_mw (ts_mi 210) := ts_mw_of (q1 := 5187) (q2 := 1005) (q3 := 5185) (q4 := 5186) (by decide +kernel)
theorem mw_211 : ts_mw (ts_mi 211) := ts_mw_of (q1 := 5200) (q2 := 1005) (q3 := 5199) (q4 := 0) (by decide +kernel)
theorem mw_212 : ts_mw (ts_mi 212) := ts_mw_of (q1 := 5197) (q2 := 1005) (q3 := 5196) (q4 := 0) (by decide +kernel)
theorem mw_213 : ts_mw (ts_mi 213) := ts_mw_of (q1 := 5194) (q2 := 1005) (q3 := 5192) (q4 := 5193) (by decide +kernel)
theorem mw_214 : ts_mw (ts_mi 214) := ts_mw_of (q1 := 5213) (q2 := 1005) (q3 := 5212) (q4 := 0) (by decide +kernel)
theorem mw_215 : ts_mw (ts_mi 215) := ts_mw_of (q1 := 5205) (q2 := 1005) (q3 := 5203) (q4 := 5204) (by decide +kernel)
theorem mw_216 : ts_mw (ts_mi 216) := ts_mw_of (q1 := 5210) (q2 := 1005) (q3 := 5208) (q4 := 5209) (by decide +kernel)
theorem mw_217 : ts_mw (ts_mi 217) := ts_mw_of (q1 := 5217) (q2 := 1005) (q3 := 5215) (q4 := 5216) (by decide +kernel)
theorem mw_218 : ts_mw (ts_mi 218) := ts_mw_of (q1 := 5221) (q2 := 1005) (q3 := 5219) (q4 := 5220) (by decide +kernel)
theorem mw_219 : ts_mw (ts_mi 219) := ts_mw_of (q1 := 5225) (q2 := 1005) (q3 := 5223) (q4 := 5224) (by decide +kernel)
theorem mw_220 : ts_mw (ts_mi 220) := ts_mw_of (q1 := 5229) (q2 := 1005) (q3 := 5227) (q4 := 5228) (by decide +kernel)
theorem mw_221 : ts_mw (ts_mi 221) := ts_mw_of (q1 := 5233) (q2 := 1005) (q3 := 5231) (q4 := 5232) (by decide +kernel)
theorem mw_222 : ts_mw (ts_mi 222) := ts_mw_of (q1 := 5237) (q2 := 1005) (q3 := 5235) (q4 := 5236) (by decide +kernel)
theorem mw_223 : ts_mw (ts_mi 223) := ts_mw_of (q1 := 6001) (q2 := 1005) (q3 := 5239) (q4 := 6000) (by decide +kernel)
theorem mw_224 : ts_mw (ts_mi 224) := ts_mw_of (q1 := 6005) (q2 := 1005) (q3 := 6003) (q4 := 6004) (by decide +kernel)
/-! String.length(), String.charAt() of the constants -/
def F_slen (as : List ts_V) (σ : ts_S) : Option ts_A := match as with
  | [.inr (.inr (.inr j))] => cond (Nat.blt j 13) (some (some (.inl (Int32.ofNat (ts_tx.getD j []).length)), σ)) none
  | _ => none
def F_schar (as : List ts_V) (σ : ts_S) : Option ts_A := match as with
  | [.inr (.inr (.inr j)), .inl i] => cond (Nat.blt j 13) (ts_ck i (ts_tx.getD j []).length (some (some (.inl ((ts_tx.getD j []).getD i.toNatClampNeg 0)), σ))) none
  | _ => none
def ts_J (X : ts_X) (l : Launch) : Prop := (∀ σ, va_D X.2.2.2.2.2.2 (ts_ws X σ)) ∧ ts_Met X l (ts_mi 3) 1 F_slen ∧ ts_Met X l (ts_mi 4) 3 F_schar
theorem con_slen {X : ts_X} {l : Launch} (hJ : ts_J X l) : ts_Met X l (ts_mi 3) 1 F_slen := hJ.2.1
theorem con_schar {X : ts_X} {l : Launch} (hJ : ts_J X l) : ts_Met X l (ts_mi 4) 3 F_schar := hJ.2.2
end
section
/-! tables, part 1 -/
def tb_X0_parentOf : List (Option ts_I) := [some (.iload_n 0, 0, 0, []), some (.tableswitch 47 1 6 #[39, 39, 41, 43, 39, 45], 48, 39, [(1, 40), (2, 40), (3, 42), (4, 44), (5, 40), (6, 46)]), none, none, none, none, none, none, none, none, none, none, none, none, none, none, none, none, none, none, none, none, none, none, none, none, none, none, none, none, none, none, none, none, none, none, none, none, none, none, some (.iconst 0, 0, 0, []), some (.ireturn, 0, 0, []), some (.iconst 2, 2, 0, []), some (.ireturn, 0, 0, []), some (.iconst 3, 3, 0, []), some (.ireturn, 0, 0, []), some (.iconst 1, 1, 0, []), some (.ireturn, 0, 0, []), some (.iconst (-1), 4294967295, 0, []), some (.ireturn, 0, 0, [])]
noncomputable def E_X0_parentOf : ts_E := fun _ _ _ => none
noncomputable def F_X0_parentOf : List ts_V → ts_S → Option ts_A := ts_Fn E_X0_parentOf tb_X0_parentOf 1
set_option maxRecDepth 20000 in
theorem ok_X0_parentOf : ts_tbo 0 ts_mi [] (ts_mi 0).1.cls (ts_mi 0).2.2.2.1 (ts_mi 0).2.1 0 tb_X0_parentOf = true := by decide +kernel
theorem con_X0_parentOf {X : ts_X} {l : Launch} (hJ : ts_J X l) : ts_Met X l (ts_mi 0) 0 F_X0_parentOf := ts_con (ts_mi 0) 0 (E := E_X0_parentOf) (mi := ts_mi) (cs := []) (tb := tb_X0_parentOf) (plainFor_of_name (by decide +kernel)) hJ.1 (fun _ h => absurd h List.not_mem_nil) ok_X0_parentOf
def tb_X0_isUnder : List (Option ts_I) := [some (.iload_n 0, 0, 0, []), some (.istore_n 2, 2, 0, []), some (.iconst 0, 0, 0, []), some (.istore_n 3, 3, 0, []), some (.iload_n 3, 3, 0, []), some (.bipush 7, 7, 0, []), none, some (.if_icmp .ge 26, 33, 0, []), none, none, some (.iload_n 2, 2, 0, []), some (.iconst (-1), 4294967295, 0, []), some (.if_icmp .eq 21, 33, 0, []), none, none, some (.iload_n 2, 2, 0, []), some (.iload_n 1, 1, 0, []), some (.if_icmp .ne 5, 22, 0, []), none, none, some (.iconst 1, 1, 0, []), some (.ireturn, 1, 0, []), some (.iload_n 2, 2, 0, []), some (.invokestatic 11, 0, 1, [(3140, 9), (0, 0)]), none, none, some (.istore_n 2, 2, 0, []), some (.iinc 3 1, 3, 1, []), none, none, some (.goto (-26), 4, 0, []), none, none, some (.iconst 0, 0, 0, []), some (.ireturn, 1, 0, [])]
noncomputable def E_X0_isUnder : ts_E := fun z => if z = 0 then F_X0_parentOf else fun _ _ => none
noncomputable def F_X0_isUnder : List ts_V → ts_S → Option ts_A := ts_Fn E_X0_isUnder tb_X0_isUnder 4
set_option maxRecDepth 20000 in
theorem ok_X0_isUnder : ts_tbo 1 ts_mi [0] (ts_mi 1).1.cls (ts_mi 1).2.2.2.1 (ts_mi 1).2.1 0 tb_X0_isUnder = true := by decide +kernel
theorem con_X0_isUnder {X : ts_X} {l : Launch} (hJ : ts_J X l) : ts_Met X l (ts_mi 1) 1 F_X0_isUnder := ts_con (ts_mi 1) 1 (E := E_X0_isUnder) (mi := ts_mi) (cs := [0]) (tb := tb_X0_isUnder) (plainFor_of_name (by decide +kernel)) hJ.1 (List.forall_mem_cons.mpr ⟨⟨mw_0, 0, by decide, con_X0_parentOf hJ⟩, fun _ h => absurd h List.not_mem_nil⟩) ok_X0_isUnder
def tb_X0_nameOf : List (Option ts_I) := [some (.iload_n 0, 0, 0, []), some (.tableswitch 57 1 6 #[39, 42, 45, 48, 51, 54], 58, 39, [(1, 40), (2, 43), (3, 46), (4, 49), (5, 52), (6, 55)]), none, none, none, none, none, none, none, none, none, none, none, none, none, none, none, none, none, none, none, none, none, none, none, none, none, none, none, none, none, none, none, none, none, none, none, none, none, none, some (.ldc 25, 1, 1, [(1, 0)]), none, some (.areturn, 0, 0, []), some (.ldc 27, 2, 1, [(2, 0)]), none, some (.areturn, 0, 0, []), some (.ldc 29, 3, 1, [(3, 0)]), none, some (.areturn, 0, 0, []), some (.ldc 31, 4, 1, [(4, 0)]), none, some (.areturn, 0, 0, []), some (.ldc 33, 5, 1, [(5, 0)]), none, some (.areturn, 0, 0, []), some (.ldc 35, 6, 1, [(6, 0)]), none, some (.areturn, 0, 0, []), some (.ldc 37, 0, 1, [(0, 0)]), none, some (.areturn, 0, 0, [])]
noncomputable def E_X0_nameOf : ts_E := fun _ _ _ => none
noncomputable def F_X0_nameOf : List ts_V → ts_S → Option ts_A := ts_Fn E_X0_nameOf tb_X0_nameOf 1
set_option maxRecDepth 20000 in
theorem ok_X0_nameOf : ts_tbo 0 ts_mi [] (ts_mi 2).1.cls (ts_mi 2).2.2.2.1 (ts_mi 2).2.1 0 tb_X0_nameOf = true := by decide +kernel
theorem con_X0_nameOf {X : ts_X} {l : Launch} (hJ : ts_J X l) : ts_Met X l (ts_mi 2) 0 F_X0_nameOf := ts_con (ts_mi 2) 0 (E := E_X0_nameOf) (mi := ts_mi) (cs := []) (tb := tb_X0_nameOf) (plainFor_of_name (by decide +kernel)) hJ.1 (fun _ h => absurd h List.not_mem_nil) ok_X0_nameOf
def tb_X3_isWord : List (Option ts_I) := [some (.aload_n 0, 0, 0, []), some (.getfield 19, 2, 2, [(1104, 0)]), none, none, some (.iconst 1, 1, 0, []), some (.if_icmp .ne 19, 24, 0, []), none, none, some (.aload_n 0, 0, 0, []), some (.getfield 25, 2, 4, [(1106, 0)]), none, none, some (.aload_n 0, 0, 0, []), some (.getfield 22, 2, 3, [(1105, 0)]), none, none, some (.isub, 0, 0, []), some (.aload_n 1, 1, 0, []), some (.invokevirtual 106, 3, 1, [(3038, 8), (0, 0)]), none, none, some (.if_icmp .eq 5, 26, 0, []), none, none, some (.iconst 0, 0, 0, []), some (.ireturn, 1, 0, []), some (.iconst 0, 0, 0, []), some (.istore_n 2, 2, 0, []), some (.iload_n 2, 2, 0, []), some (.aload_n 1, 1, 0, []), some (.invokevirtual 106, 3, 1, [(3038, 8), (0, 0)]), none, none, some (.if_icmp .ge 30, 63, 0, []), none, none, some (.aload_n 0, 0, 0, []), some (.getfield 9, 2, 0, [(1101, 0)]), none, none, some (.aload_n 0, 0, 0, []), some (.getfield 22, 2, 3, [(1105, 0)]), none, none, some (.iload_n 2, 2, 0, []), some (.iadd, 0, 0, []), some (.iaload, 0, 0, []), some (.aload_n 1, 1, 0, []), some (.iload_n 2, 2, 0, []), some (.invokevirtual 112, 4, 2, [(3048, 8), (0, 0)]), none, none, some (.if_icmp .eq 5, 57, 0, []), none, none, some (.iconst 0, 0, 0, []), some (.ireturn, 1, 0, []), some (.iinc 2 1, 2, 1, []), none, none, some (.goto (-32), 28, 0, []), none, none, some (.iconst 1, 1, 0, []), some (.ireturn, 1, 0, [])]
noncomputable def E_X3_isWord : ts_E := fun z => if z = 3 then F_slen else if z = 4 then F_schar else fun _ _ => none
noncomputable def F_X3_isWord : List ts_V → ts_S → Option ts_A := ts_Fn E_X3_isWord tb_X3_isWord 3
set_option maxRecDepth 20000 in
theorem ok_X3_isWord : ts_tbo 4 ts_mi [3, 4] (ts_mi 5).1.cls (ts_mi 5).2.2.2.1 (ts_mi 5).2.1 0 tb_X3_isWord = true := by decide +kernel
theorem con_X3_isWord {X : ts_X} {l : Launch} (hJ : ts_J X l) : ts_Met X l (ts_mi 5) 4 F_X3_isWord := ts_con (ts_mi 5) 4 (E := E_X3_isWord) (mi := ts_mi) (cs := [3, 4]) (tb := tb_X3_isWord) (plainFor_of_name (by decide +kernel)) hJ.1 (List.forall_mem_cons.mpr ⟨⟨mw_3, 1, by decide, con_slen hJ⟩, List.forall_mem_cons.mpr ⟨⟨mw_4, 3, by decide, con_schar hJ⟩, fun _ h => absurd h List.not_mem_nil⟩⟩) ok_X3_isWord
def tb_X0_kindNamed : List (Option ts_I) := [some (.iconst 0, 0, 0, []), some (.istore_n 1, 1, 0, []), some (.iload_n 1, 1, 0, []), some (.bipush 7, 7, 0, []), none, some (.if_icmp .ge 22, 27, 0, []), none, none, some (.aload_n 0, 0, 0, []), some (.iload_n 1, 1, 0, []), some (.invokestatic 15, 2, 1, [(3105, 9), (3, 0)]), none, none, some (.invokevirtual 19, 5, 2, [(3115, 2), (0, 0)]), none, none, some (.ifCond .eq 5, 21, 0, []), none, none, some (.iload_n 1, 1, 0, []), some (.ireturn, 0, 0, []), some (.iinc 1 1, 1, 1, []), none, none, some (.goto (-22), 2, 0, []), none, none, some (.iconst (-1), 4294967295, 0, []), some (.ireturn, 0, 0, [])]
noncomputable def E_X0_kindNamed : ts_E := fun z => if z = 2 then F_X0_nameOf else if z = 5 then F_X3_isWord else fun _ _ => none
noncomputable def F_X0_kindNamed : List ts_V → ts_S → Option ts_A := ts_Fn E_X0_kindNamed tb_X0_kindNamed 2
set_option maxRecDepth 20000 in
theorem ok_X0_kindNamed : ts_tbo 5 ts_mi [2, 5] (ts_mi 6).1.cls (ts_mi 6).2.2.2.1 (ts_mi 6).2.1 0 tb_X0_kindNamed = true := by decide +kernel
theorem con_X0_kindNamed {X : ts_X} {l : Launch} (hJ : ts_J X l) : ts_Met X l (ts_mi 6) 5 F_X0_kindNamed := ts_con (ts_mi 6) 5 (E := E_X0_kindNamed) (mi := ts_mi) (cs := [2, 5]) (tb := tb_X0_kindNamed) (plainFor_of_name (by decide +kernel)) hJ.1 (List.forall_mem_cons.mpr ⟨⟨mw_2, 0, by decide, con_X0_nameOf hJ⟩, List.forall_mem_cons.mpr ⟨⟨mw_5, 4, by decide, con_X3_isWord hJ⟩, fun _ h => absurd h List.not_mem_nil⟩⟩) ok_X0_kindNamed
def tb_X0_mostHeld : List (Option ts_I) := [some (.iload_n 0, 0, 0, []), some (.tableswitch 49 1 6 #[39, 41, 43, 45, 49, 47], 50, 39, [(1, 40), (2, 42), (3, 44), (4, 46), (5, 50), (6, 48)]), none, none, none, none, none, none, none, none, none, none, none, none, none, none, none, none, none, none, none, none, none, none, none, none, none, none, none, none, none, none, none, none, none, none, none, none, none, none, some (.iconst 4, 4, 0, []), some (.ireturn, 0, 0, []), some (.iconst 5, 5, 0, []), some (.ireturn, 0, 0, []), some (.iconst 4, 4, 0, []), some (.ireturn, 0, 0, []), some (.iconst 2, 2, 0, []), some (.ireturn, 0, 0, []), some (.iconst 0, 0, 0, []), some (.ireturn, 0, 0, []), some (.iconst 3, 3, 0, []), some (.ireturn, 0, 0, [])]
noncomputable def E_X0_mostHeld : ts_E := fun _ _ _ => none
noncomputable def F_X0_mostHeld : List ts_V → ts_S → Option ts_A := ts_Fn E_X0_mostHeld tb_X0_mostHeld 1
set_option maxRecDepth 20000 in
theorem ok_X0_mostHeld : ts_tbo 0 ts_mi [] (ts_mi 7).1.cls (ts_mi 7).2.2.2.1 (ts_mi 7).2.1 0 tb_X0_mostHeld = true := by decide +kernel
theorem con_X0_mostHeld {X : ts_X} {l : Launch} (hJ : ts_J X l) : ts_Met X l (ts_mi 7) 0 F_X0_mostHeld := ts_con (ts_mi 7) 0 (E := E_X0_mostHeld) (mi := ts_mi) (cs := []) (tb := tb_X0_mostHeld) (plainFor_of_name (by decide +kernel)) hJ.1 (fun _ h => absurd h List.not_mem_nil) ok_X0_mostHeld
def tb_X0_greatest : List (Option ts_I) := [some (.bipush 11, 11, 0, []), none, some (.istore_n 1, 1, 0, []), some (.iload_n 1, 1, 0, []), some (.ifCond .lt 19, 23, 0, []), none, none, some (.iload_n 0, 0, 0, []), some (.iload_n 1, 1, 0, []), some (.ishr, 0, 0, []), some (.iconst 1, 1, 0, []), some (.iand, 0, 0, []), some (.ifCond .eq 5, 17, 0, []), none, none, some (.iload_n 1, 1, 0, []), some (.ireturn, 0, 0, []), some (.iinc 1 (-1), 1, 4294967295, []), none, none, some (.goto (-17), 3, 0, []), none, none, some (.iconst (-1), 4294967295, 0, []), some (.ireturn, 0, 0, [])]
noncomputable def E_X0_greatest : ts_E := fun _ _ _ => none
noncomputable def F_X0_greatest : List ts_V → ts_S → Option ts_A := ts_Fn E_X0_greatest tb_X0_greatest 2
set_option maxRecDepth 20000 in
theorem ok_X0_greatest : ts_tbo 0 ts_mi [] (ts_mi 8).1.cls (ts_mi 8).2.2.2.1 (ts_mi 8).2.1 0 tb_X0_greatest = true := by decide +kernel
theorem con_X0_greatest {X : ts_X} {l : Launch} (hJ : ts_J X l) : ts_Met X l (ts_mi 8) 0 F_X0_greatest := ts_con (ts_mi 8) 0 (E := E_X0_greatest) (mi := ts_mi) (cs := []) (tb := tb_X0_greatest) (plainFor_of_name (by decide +kernel)) hJ.1 (fun _ h => absurd h List.not_mem_nil) ok_X0_greatest
def tb_X0_least : List (Option ts_I) := [some (.iconst 0, 0, 0, []), some (.istore_n 1, 1, 0, []), some (.iload_n 1, 1, 0, []), some (.bipush 12, 12, 0, []), none, some (.if_icmp .ge 19, 24, 0, []), none, none, some (.iload_n 0, 0, 0, []), some (.iload_n 1, 1, 0, []), some (.ishr, 0, 0, []), some (.iconst 1, 1, 0, []), some (.iand, 0, 0, []), some (.ifCond .eq 5, 18, 0, []), none, none, some (.iload_n 1, 1, 0, []), some (.ireturn, 0, 0, []), some (.iinc 1 1, 1, 1, []), none, none, some (.goto (-19), 2, 0, []), none, none, some (.iconst (-1), 4294967295, 0, []), some (.ireturn, 0, 0, [])]
noncomputable def E_X0_least : ts_E := fun _ _ _ => none
noncomputable def F_X0_least : List ts_V → ts_S → Option ts_A := ts_Fn E_X0_least tb_X0_least 2
set_option maxRecDepth 20000 in
theorem ok_X0_least : ts_tbo 0 ts_mi [] (ts_mi 9).1.cls (ts_mi 9).2.2.2.1 (ts_mi 9).2.1 0 tb_X0_least = true := by decide +kernel
theorem con_X0_least {X : ts_X} {l : Launch} (hJ : ts_J X l) : ts_Met X l (ts_mi 9) 0 F_X0_least := ts_con (ts_mi 9) 0 (E := E_X0_least) (mi := ts_mi) (cs := []) (tb := tb_X0_least) (plainFor_of_name (by decide +kernel)) hJ.1 (fun _ h => absurd h List.not_mem_nil) ok_X0_least
def tb_X0_wordTaken : List (Option ts_I) := [some (.iload_n 1, 1, 0, []), some (.invokestatic 39, 8, 1, [(2031, 9), (0, 0)]), none, none, some (.istore_n 3, 3, 0, []), some (.iload_n 1, 1, 0, []), some (.sipush 1365, 1365, 0, []), none, none, some (.iand, 0, 0, []), some (.invokestatic 39, 8, 1, [(2031, 9), (0, 0)]), none, none, some (.istore 4, 4, 0, []), none, some (.iload 4, 4, 0, []), none, some (.iconst (-1), 4294967295, 0, []), some (.if_icmp .ne 7, 25, 0, []), none, none, some (.iload_n 3, 3, 0, []), some (.goto 5, 27, 0, []), none, none, some (.iload 4, 4, 0, []), none, some (.istore 5, 5, 0, []), none, some (.iload_n 0, 0, 0, []), some (.tableswitch 71 1 6 #[38, 43, 46, 49, 71, 38], 101, 38, [(1, 68), (2, 73), (3, 76), (4, 79), (5, 101), (6, 68)]), none, none, none, none, none, none, none, none, none, none, none, none, none, none, none, none, none, none, none, none, none, none, none, none, none, none, none, none, none, none, none, none, none, none, none, none, none, some (.iload_n 1, 1, 0, []), some (.invokestatic 42, 9, 1, [(2034, 9), (0, 0)]), none, none, some (.ireturn, 0, 0, []), some (.iload 4, 4, 0, []), none, some (.ireturn, 0, 0, []), some (.iload 5, 5, 0, []), none, some (.ireturn, 0, 0, []), some (.iload 5, 5, 0, []), none, some (.iconst (-1), 4294967295, 0, []), some (.if_icmp .eq 16, 98, 0, []), none, none, some (.iload_n 2, 2, 0, []), some (.iload 5, 5, 0, []), none, some (.ishr, 0, 0, []), some (.iconst 1, 1, 0, []), some (.iand, 0, 0, []), some (.ifCond .eq 7, 98, 0, []), none, none, some (.iconst (-1), 4294967295, 0, []), some (.goto 5, 100, 0, []), none, none, some (.iload 5, 5, 0, []), none, some (.ireturn, 0, 0, []), some (.iload_n 3, 3, 0, []), some (.ireturn, 0, 0, [])]
noncomputable def E_X0_wordTaken : ts_E := fun z => if z = 8 then F_X0_greatest else if z = 9 then F_X0_least else fun _ _ => none
noncomputable def F_X0_wordTaken : List ts_V → ts_S → Option ts_A := ts_Fn E_X0_wordTaken tb_X0_wordTaken 6
set_option maxRecDepth 20000 in
theorem ok_X0_wordTaken : ts_tbo 1 ts_mi [8, 9] (ts_mi 10).1.cls (ts_mi 10).2.2.2.1 (ts_mi 10).2.1 0 tb_X0_wordTaken = true := by decide +kernel
theorem con_X0_wordTaken {X : ts_X} {l : Launch} (hJ : ts_J X l) : ts_Met X l (ts_mi 10) 1 F_X0_wordTaken := ts_con (ts_mi 10) 1 (E := E_X0_wordTaken) (mi := ts_mi) (cs := [8, 9]) (tb := tb_X0_wordTaken) (plainFor_of_name (by decide +kernel)) hJ.1 (List.forall_mem_cons.mpr ⟨⟨mw_8, 0, by decide, con_X0_greatest hJ⟩, List.forall_mem_cons.mpr ⟨⟨mw_9, 0, by decide, con_X0_least hJ⟩, fun _ h => absurd h List.not_mem_nil⟩⟩) ok_X0_wordTaken
def tb_X0_placeGiven : List (Option ts_I) := [some (.iload_n 1, 1, 0, []), some (.ifCond .gt 5, 6, 0, []), none, none, some (.iconst (-1), 4294967295, 0, []), some (.ireturn, 0, 0, []), some (.iload_n 0, 0, 0, []), some (.tableswitch 49 2 5 #[29, 33, 33, 47], 56, 29, [(2, 36), (3, 40), (4, 40), (5, 54)]), none, none, none, none, none, none, none, none, none, none, none, none, none, none, none, none, none, none, none, none, none, none, none, none, none, none, none, none, some (.iload_n 1, 1, 0, []), some (.iconst 1, 1, 0, []), some (.isub, 0, 0, []), some (.ireturn, 0, 0, []), some (.iload_n 2, 2, 0, []), some (.iconst 3, 3, 0, []), some (.irem, 0, 0, []), some (.ifCond .ne 7, 50, 0, []), none, none, some (.iconst 0, 0, 0, []), some (.goto 6, 53, 0, []), none, none, some (.iload_n 1, 1, 0, []), some (.iconst 1, 1, 0, []), some (.isub, 0, 0, []), some (.ireturn, 0, 0, []), some (.iconst (-1), 4294967295, 0, []), some (.ireturn, 0, 0, []), some (.iconst 0, 0, 0, []), some (.ireturn, 0, 0, [])]
noncomputable def E_X0_placeGiven : ts_E := fun _ _ _ => none
noncomputable def F_X0_placeGiven : List ts_V → ts_S → Option ts_A := ts_Fn E_X0_placeGiven tb_X0_placeGiven 3
set_option maxRecDepth 20000 in
theorem ok_X0_placeGiven : ts_tbo 0 ts_mi [] (ts_mi 11).1.cls (ts_mi 11).2.2.2.1 (ts_mi 11).2.1 0 tb_X0_placeGiven = true := by decide +kernel
theorem con_X0_placeGiven {X : ts_X} {l : Launch} (hJ : ts_J X l) : ts_Met X l (ts_mi 11) 0 F_X0_placeGiven := ts_con (ts_mi 11) 0 (E := E_X0_placeGiven) (mi := ts_mi) (cs := []) (tb := tb_X0_placeGiven) (plainFor_of_name (by decide +kernel)) hJ.1 (fun _ h => absurd h List.not_mem_nil) ok_X0_placeGiven
def tb_X1_become : List (Option ts_I) := [some (.aload_n 1, 1, 0, []), some (.getfield 9, 0, 0, [(1028, 0)]), none, none, some (.iconst 0, 0, 0, []), some (.aload_n 0, 0, 0, []), some (.getfield 9, 0, 0, [(1028, 0)]), none, none, some (.iconst 0, 0, 0, []), some (.bipush 6, 6, 0, []), none, some (.invokestatic 58, 0, 5, [(2135, 7), (1, 0)]), none, none, some (.aload_n 0, 0, 0, []), some (.aload_n 1, 1, 0, []), some (.getfield 15, 0, 1, [(1031, 0)]), none, none, some (.putfield 15, 0, 1, [(1031, 0)]), none, none, some (.aload_n 0, 0, 0, []), some (.aload_n 1, 1, 0, []), some (.getfield 19, 0, 2, [(1033, 0)]), none, none, some (.putfield 19, 0, 2, [(1033, 0)]), none, none, some (.aload_n 0, 0, 0, []), some (.aload_n 1, 1, 0, []), some (.getfield 22, 0, 3, [(1035, 0)]), none, none, some (.putfield 22, 0, 3, [(1035, 0)]), none, none, some (.aload_n 0, 0, 0, []), some (.aload_n 1, 1, 0, []), some (.getfield 25, 0, 4, [(1037, 0)]), none, none, some (.putfield 25, 0, 4, [(1037, 0)]), none, none, some (.aload_n 1, 1, 0, []), some (.getfield 28, 0, 5, [(1040, 0)]), none, none, some (.iconst 0, 0, 0, []), some (.aload_n 0, 0, 0, []), some (.getfield 28, 0, 5, [(1040, 0)]), none, none, some (.iconst 0, 0, 0, []), some (.bipush 8, 8, 0, []), none, some (.invokestatic 58, 0, 5, [(2135, 7), (1, 0)]), none, none, some (.aload_n 1, 1, 0, []), some (.getfield 31, 0, 6, [(1042, 0)]), none, none, some (.iconst 0, 0, 0, []), some (.aload_n 0, 0, 0, []), some (.getfield 31, 0, 6, [(1042, 0)]), none, none, some (.iconst 0, 0, 0, []), some (.bipush 8, 8, 0, []), none, some (.invokestatic 58, 0, 5, [(2135, 7), (1, 0)]), none, none, some (.aload_n 1, 1, 0, []), some (.getfield 34, 0, 7, [(1044, 0)]), none, none, some (.iconst 0, 0, 0, []), some (.aload_n 0, 0, 0, []), some (.getfield 34, 0, 7, [(1044, 0)]), none, none, some (.iconst 0, 0, 0, []), some (.bipush 8, 8, 0, []), none, some (.invokestatic 58, 0, 5, [(2135, 7), (1, 0)]), none, none, some (.aload_n 1, 1, 0, []), some (.getfield 37, 0, 8, [(1047, 0)]), none, none, some (.iconst 0, 0, 0, []), some (.aload_n 0, 0, 0, []), some (.getfield 37, 0, 8, [(1047, 0)]), none, none, some (.iconst 0, 0, 0, []), some (.bipush 8, 8, 0, []), none, some (.invokestatic 58, 0, 5, [(2135, 7), (1, 0)]), none, none, some (.aload_n 1, 1, 0, []), some (.getfield 40, 0, 9, [(1050, 0)]), none, none, some (.iconst 0, 0, 0, []), some (.aload_n 0, 0, 0, []), some (.getfield 40, 0, 9, [(1050, 0)]), none, none, some (.iconst 0, 0, 0, []), some (.bipush 40, 40, 0, []), none, some (.invokestatic 58, 0, 5, [(2135, 7), (1, 0)]), none, none, some (.aload_n 0, 0, 0, []), some (.aload_n 1, 1, 0, []), some (.getfield 43, 0, 10, [(1051, 0)]), none, none, some (.putfield 43, 0, 10, [(1051, 0)]), none, none, some (.aload_n 1, 1, 0, []), some (.getfield 46, 0, 11, [(1053, 0)]), none, none, some (.iconst 0, 0, 0, []), some (.aload_n 0, 0, 0, []), some (.getfield 46, 0, 11, [(1053, 0)]), none, none, some (.iconst 0, 0, 0, []), some (.bipush 6, 6, 0, []), none, some (.invokestatic 58, 0, 5, [(2135, 7), (1, 0)]), none, none, some (.aload_n 1, 1, 0, []), some (.getfield 49, 0, 12, [(1056, 0)]), none, none, some (.iconst 0, 0, 0, []), some (.aload_n 0, 0, 0, []), some (.getfield 49, 0, 12, [(1056, 0)]), none, none, some (.iconst 0, 0, 0, []), some (.bipush 6, 6, 0, []), none, some (.invokestatic 58, 0, 5, [(2135, 7), (1, 0)]), none, none, some (.aload_n 1, 1, 0, []), some (.getfield 52, 0, 13, [(1059, 0)]), none, none, some (.iconst 0, 0, 0, []), some (.aload_n 0, 0, 0, []), some (.getfield 52, 0, 13, [(1059, 0)]), none, none, some (.iconst 0, 0, 0, []), some (.bipush 6, 6, 0, []), none, some (.invokestatic 58, 0, 5, [(2135, 7), (1, 0)]), none, none, some (.aload_n 1, 1, 0, []), some (.getfield 55, 0, 14, [(1061, 0)]), none, none, some (.iconst 0, 0, 0, []), some (.aload_n 0, 0, 0, []), some (.getfield 55, 0, 14, [(1061, 0)]), none, none, some (.iconst 0, 0, 0, []), some (.bipush 10, 10, 0, []), none, some (.invokestatic 58, 0, 5, [(2135, 7), (1, 0)]), none, none, some (.return_, 0, 0, [])]
noncomputable def E_X1_become : ts_E := fun _ _ _ => none
noncomputable def F_X1_become : List ts_V → ts_S → Option ts_A := ts_Fn E_X1_become tb_X1_become 2
set_option maxRecDepth 20000 in
theorem ok_X1_become : ts_tbo 1 ts_mi [] (ts_mi 12).1.cls (ts_mi 12).2.2.2.1 (ts_mi 12).2.1 0 tb_X1_become = true := by decide +kernel
theorem con_X1_become {X : ts_X} {l : Launch} (hJ : ts_J X l) : ts_Met X l (ts_mi 12) 1 F_X1_become := ts_con (ts_mi 12) 1 (E := E_X1_become) (mi := ts_mi) (cs := []) (tb := tb_X1_become) (plainFor_of_name (by decide +kernel)) hJ.1 (fun _ h => absurd h List.not_mem_nil) ok_X1_become
def tb_X4_isBelow : List (Option ts_I) := [some (.iload_n 0, 0, 0, []), some (.ifCond .lt 12, 13, 0, []), none, none, some (.iload_n 0, 0, 0, []), some (.iload_n 1, 1, 0, []), some (.if_icmp .ge 7, 13, 0, []), none, none, some (.iconst 1, 1, 0, []), some (.goto 4, 14, 0, []), none, none, some (.iconst 0, 0, 0, []), some (.ireturn, 1, 0, [])]
noncomputable def E_X4_isBelow : ts_E := fun _ _ _ => none
noncomputable def F_X4_isBelow : List ts_V → ts_S → Option ts_A := ts_Fn E_X4_isBelow tb_X4_isBelow 2
set_option maxRecDepth 20000 in
theorem ok_X4_isBelow : ts_tbo 0 ts_mi [] (ts_mi 13).1.cls (ts_mi 13).2.2.2.1 (ts_mi 13).2.1 0 tb_X4_isBelow = true := by decide +kernel
theorem con_X4_isBelow {X : ts_X} {l : Launch} (hJ : ts_J X l) : ts_Met X l (ts_mi 13) 0 F_X4_isBelow := ts_con (ts_mi 13) 0 (E := E_X4_isBelow) (mi := ts_mi) (cs := []) (tb := tb_X4_isBelow) (plainFor_of_name (by decide +kernel)) hJ.1 (fun _ h => absurd h List.not_mem_nil) ok_X4_isBelow
def tb_X1_isSill : List (Option ts_I) := [some (.iload_n 1, 1, 0, []), some (.aload_n 0, 0, 0, []), some (.getfield 25, 0, 4, [(1037, 0)]), none, none, some (.invokestatic 64, 13, 2, [(0, 6), (0, 0)]), none, none, some (.ireturn, 1, 0, [])]
noncomputable def E_X1_isSill : ts_E := fun z => if z = 13 then F_X4_isBelow else fun _ _ => none
noncomputable def F_X1_isSill : List ts_V → ts_S → Option ts_A := ts_Fn E_X1_isSill tb_X1_isSill 2
set_option maxRecDepth 20000 in
theorem ok_X1_isSill : ts_tbo 1 ts_mi [13] (ts_mi 14).1.cls (ts_mi 14).2.2.2.1 (ts_mi 14).2.1 0 tb_X1_isSill = true := by decide +kernel
theorem con_X1_isSill {X : ts_X} {l : Launch} (hJ : ts_J X l) : ts_Met X l (ts_mi 14) 1 F_X1_isSill := ts_con (ts_mi 14) 1 (E := E_X1_isSill) (mi := ts_mi) (cs := [13]) (tb := tb_X1_isSill) (plainFor_of_name (by decide +kernel)) hJ.1 (List.forall_mem_cons.mpr ⟨⟨mw_13, 0, by decide, con_X4_isBelow hJ⟩, fun _ h => absurd h List.not_mem_nil⟩) ok_X1_isSill
def tb_X1_isPerson : List (Option ts_I) := [some (.iload_n 1, 1, 0, []), some (.aload_n 0, 0, 0, []), some (.getfield 43, 0, 10, [(1051, 0)]), none, none, some (.invokestatic 64, 13, 2, [(0, 6), (0, 0)]), none, none, some (.ireturn, 1, 0, [])]
noncomputable def E_X1_isPerson : ts_E := fun z => if z = 13 then F_X4_isBelow else fun _ _ => none
noncomputable def F_X1_isPerson : List ts_V → ts_S → Option ts_A := ts_Fn E_X1_isPerson tb_X1_isPerson 2
set_option maxRecDepth 20000 in
theorem ok_X1_isPerson : ts_tbo 1 ts_mi [13] (ts_mi 15).1.cls (ts_mi 15).2.2.2.1 (ts_mi 15).2.1 0 tb_X1_isPerson = true := by decide +kernel
theorem con_X1_isPerson {X : ts_X} {l : Launch} (hJ : ts_J X l) : ts_Met X l (ts_mi 15) 1 F_X1_isPerson := ts_con (ts_mi 15) 1 (E := E_X1_isPerson) (mi := ts_mi) (cs := [13]) (tb := tb_X1_isPerson) (plainFor_of_name (by decide +kernel)) hJ.1 (List.forall_mem_cons.mpr ⟨⟨mw_13, 0, by decide, con_X4_isBelow hJ⟩, fun _ h => absurd h List.not_mem_nil⟩) ok_X1_isPerson
def tb_X1_hasWord : List (Option ts_I) := [some (.aload_n 0, 0, 0, []), some (.getfield 46, 0, 11, [(1053, 0)]), none, none, some (.iload_n 1, 1, 0, []), some (.iaload, 0, 0, []), some (.iload_n 2, 2, 0, []), some (.ishr, 0, 0, []), some (.iconst 1, 1, 0, []), some (.iand, 0, 0, []), some (.ifCond .eq 7, 17, 0, []), none, none, some (.iconst 1, 1, 0, []), some (.goto 4, 18, 0, []), none, none, some (.iconst 0, 0, 0, []), some (.ireturn, 1, 0, [])]
noncomputable def E_X1_hasWord : ts_E := fun _ _ _ => none
noncomputable def F_X1_hasWord : List ts_V → ts_S → Option ts_A := ts_Fn E_X1_hasWord tb_X1_hasWord 3
set_option maxRecDepth 20000 in
theorem ok_X1_hasWord : ts_tbo 0 ts_mi [] (ts_mi 16).1.cls (ts_mi 16).2.2.2.1 (ts_mi 16).2.1 0 tb_X1_hasWord = true := by decide +kernel
theorem con_X1_hasWord {X : ts_X} {l : Launch} (hJ : ts_J X l) : ts_Met X l (ts_mi 16) 0 F_X1_hasWord := ts_con (ts_mi 16) 0 (E := E_X1_hasWord) (mi := ts_mi) (cs := []) (tb := tb_X1_hasWord) (plainFor_of_name (by decide +kernel)) hJ.1 (fun _ h => absurd h List.not_mem_nil) ok_X1_hasWord
def tb_X1_addSill : List (Option ts_I) := [some (.aload_n 0, 0, 0, []), some (.getfield 25, 0, 4, [(1037, 0)]), none, none, some (.bipush 8, 8, 0, []), none, some (.if_icmp .lt 5, 11, 0, []), none, none, some (.iconst (-1), 4294967295, 0, []), some (.ireturn, 0, 0, []), some (.aload_n 0, 0, 0, []), some (.getfield 25, 0, 4, [(1037, 0)]), none, none, some (.istore_n 2, 2, 0, []), some (.aload_n 0, 0, 0, []), some (.dup, 0, 0, []), some (.getfield 25, 0, 4, [(1037, 0)]), none, none, some (.iconst 1, 1, 0, []), some (.iadd, 0, 0, []), some (.putfield 25, 0, 4, [(1037, 0)]), none, none, some (.aload_n 0, 0, 0, []), some (.getfield 28, 0, 5, [(1040, 0)]), none, none, some (.iload_n 2, 2, 0, []), some (.iload_n 1, 1, 0, []), some (.iastore, 0, 0, []), some (.aload_n 0, 0, 0, []), some (.getfield 31, 0, 6, [(1042, 0)]), none, none, some (.iload_n 2, 2, 0, []), some (.iconst 0, 0, 0, []), some (.iastore, 0, 0, []), some (.aload_n 0, 0, 0, []), some (.getfield 34, 0, 7, [(1044, 0)]), none, none, some (.iload_n 2, 2, 0, []), some (.iconst 0, 0, 0, []), some (.iastore, 0, 0, []), some (.aload_n 0, 0, 0, []), some (.getfield 37, 0, 8, [(1047, 0)]), none, none, some (.iload_n 2, 2, 0, []), some (.iconst 0, 0, 0, []), some (.iastore, 0, 0, []), some (.iload_n 2, 2, 0, []), some (.ireturn, 0, 0, [])]
noncomputable def E_X1_addSill : ts_E := fun _ _ _ => none
noncomputable def F_X1_addSill : List ts_V → ts_S → Option ts_A := ts_Fn E_X1_addSill tb_X1_addSill 3
set_option maxRecDepth 20000 in
theorem ok_X1_addSill : ts_tbo 0 ts_mi [] (ts_mi 17).1.cls (ts_mi 17).2.2.2.1 (ts_mi 17).2.1 0 tb_X1_addSill = true := by decide +kernel
theorem con_X1_addSill {X : ts_X} {l : Launch} (hJ : ts_J X l) : ts_Met X l (ts_mi 17) 0 F_X1_addSill := ts_con (ts_mi 17) 0 (E := E_X1_addSill) (mi := ts_mi) (cs := []) (tb := tb_X1_addSill) (plainFor_of_name (by decide +kernel)) hJ.1 (fun _ h => absurd h List.not_mem_nil) ok_X1_addSill
def tb_X1_addPerson : List (Option ts_I) := [some (.aload_n 0, 0, 0, []), some (.getfield 43, 0, 10, [(1051, 0)]), none, none, some (.bipush 6, 6, 0, []), none, some (.if_icmp .lt 5, 11, 0, []), none, none, some (.iconst (-1), 4294967295, 0, []), some (.ireturn, 0, 0, []), some (.aload_n 0, 0, 0, []), some (.getfield 43, 0, 10, [(1051, 0)]), none, none, some (.istore_n 2, 2, 0, []), some (.aload_n 0, 0, 0, []), some (.dup, 0, 0, []), some (.getfield 43, 0, 10, [(1051, 0)]), none, none, some (.iconst 1, 1, 0, []), some (.iadd, 0, 0, []), some (.putfield 43, 0, 10, [(1051, 0)]), none, none, some (.aload_n 0, 0, 0, []), some (.getfield 46, 0, 11, [(1053, 0)]), none, none, some (.iload_n 2, 2, 0, []), some (.iload_n 1, 1, 0, []), some (.iastore, 0, 0, []), some (.aload_n 0, 0, 0, []), some (.getfield 49, 0, 12, [(1056, 0)]), none, none, some (.iload_n 2, 2, 0, []), some (.iconst (-1), 4294967295, 0, []), some (.iastore, 0, 0, []), some (.aload_n 0, 0, 0, []), some (.getfield 52, 0, 13, [(1059, 0)]), none, none, some (.iload_n 2, 2, 0, []), some (.iconst 0, 0, 0, []), some (.iastore, 0, 0, []), some (.iload_n 2, 2, 0, []), some (.ireturn, 0, 0, [])]
noncomputable def E_X1_addPerson : ts_E := fun _ _ _ => none
noncomputable def F_X1_addPerson : List ts_V → ts_S → Option ts_A := ts_Fn E_X1_addPerson tb_X1_addPerson 3
set_option maxRecDepth 20000 in
theorem ok_X1_addPerson : ts_tbo 0 ts_mi [] (ts_mi 18).1.cls (ts_mi 18).2.2.2.1 (ts_mi 18).2.1 0 tb_X1_addPerson = true := by decide +kernel
theorem con_X1_addPerson {X : ts_X} {l : Launch} (hJ : ts_J X l) : ts_Met X l (ts_mi 18) 0 F_X1_addPerson := ts_con (ts_mi 18) 0 (E := E_X1_addPerson) (mi := ts_mi) (cs := []) (tb := tb_X1_addPerson) (plainFor_of_name (by decide +kernel)) hJ.1 (fun _ h => absurd h List.not_mem_nil) ok_X1_addPerson
def tb_X1_keptAt : List (Option ts_I) := [some (.iload_n 1, 1, 0, []), some (.aload_n 0, 0, 0, []), some (.getfield 25, 0, 4, [(1037, 0)]), none, none, some (.invokestatic 64, 13, 2, [(0, 6), (0, 0)]), none, none, some (.ifCond .eq 16, 24, 0, []), none, none, some (.iload_n 2, 2, 0, []), some (.aload_n 0, 0, 0, []), some (.getfield 37, 0, 8, [(1047, 0)]), none, none, some (.iload_n 1, 1, 0, []), some (.iaload, 0, 0, []), some (.invokestatic 64, 13, 2, [(0, 6), (0, 0)]), none, none, some (.ifCond .ne 5, 26, 0, []), none, none, some (.iconst (-1), 4294967295, 0, []), some (.ireturn, 0, 0, []), some (.aload_n 0, 0, 0, []), some (.getfield 40, 0, 9, [(1050, 0)]), none, none, some (.iload_n 1, 1, 0, []), some (.iconst 5, 5, 0, []), some (.imul, 0, 0, []), some (.iload_n 2, 2, 0, []), some (.iadd, 0, 0, []), some (.iaload, 0, 0, []), some (.ireturn, 0, 0, [])]
noncomputable def E_X1_keptAt : ts_E := fun z => if z = 13 then F_X4_isBelow else fun _ _ => none
noncomputable def F_X1_keptAt : List ts_V → ts_S → Option ts_A := ts_Fn E_X1_keptAt tb_X1_keptAt 3
set_option maxRecDepth 20000 in
theorem ok_X1_keptAt : ts_tbo 1 ts_mi [13] (ts_mi 19).1.cls (ts_mi 19).2.2.2.1 (ts_mi 19).2.1 0 tb_X1_keptAt = true := by decide +kernel
theorem con_X1_keptAt {X : ts_X} {l : Launch} (hJ : ts_J X l) : ts_Met X l (ts_mi 19) 1 F_X1_keptAt := ts_con (ts_mi 19) 1 (E := E_X1_keptAt) (mi := ts_mi) (cs := [13]) (tb := tb_X1_keptAt) (plainFor_of_name (by decide +kernel)) hJ.1 (List.forall_mem_cons.mpr ⟨⟨mw_13, 0, by decide, con_X4_isBelow hJ⟩, fun _ h => absurd h List.not_mem_nil⟩) ok_X1_keptAt
def tb_X1_keptSet : List (Option ts_I) := [some (.iconst 0, 0, 0, []), some (.istore_n 2, 2, 0, []), some (.iconst 0, 0, 0, []), some (.istore_n 3, 3, 0, []), some (.iload_n 3, 3, 0, []), some (.aload_n 0, 0, 0, []), some (.getfield 37, 0, 8, [(1047, 0)]), none, none, some (.iload_n 1, 1, 0, []), some (.iaload, 0, 0, []), some (.if_icmp .ge 24, 35, 0, []), none, none, some (.iload_n 2, 2, 0, []), some (.iconst 1, 1, 0, []), some (.aload_n 0, 0, 0, []), some (.getfield 40, 0, 9, [(1050, 0)]), none, none, some (.iload_n 1, 1, 0, []), some (.iconst 5, 5, 0, []), some (.imul, 0, 0, []), some (.iload_n 3, 3, 0, []), some (.iadd, 0, 0, []), some (.iaload, 0, 0, []), some (.ishl, 0, 0, []), some (.ior, 0, 0, []), some (.istore_n 2, 2, 0, []), some (.iinc 3 1, 3, 1, []), none, none, some (.goto (-28), 4, 0, []), none, none, some (.iload_n 2, 2, 0, []), some (.ireturn, 0, 0, [])]
noncomputable def E_X1_keptSet : ts_E := fun _ _ _ => none
noncomputable def F_X1_keptSet : List ts_V → ts_S → Option ts_A := ts_Fn E_X1_keptSet tb_X1_keptSet 4
set_option maxRecDepth 20000 in
theorem ok_X1_keptSet : ts_tbo 0 ts_mi [] (ts_mi 20).1.cls (ts_mi 20).2.2.2.1 (ts_mi 20).2.1 0 tb_X1_keptSet = true := by decide +kernel
theorem con_X1_keptSet {X : ts_X} {l : Launch} (hJ : ts_J X l) : ts_Met X l (ts_mi 20) 0 F_X1_keptSet := ts_con (ts_mi 20) 0 (E := E_X1_keptSet) (mi := ts_mi) (cs := []) (tb := tb_X1_keptSet) (plainFor_of_name (by decide +kernel)) hJ.1 (fun _ h => absurd h List.not_mem_nil) ok_X1_keptSet
def tb_X1_keep : List (Option ts_I) := [some (.aload_n 0, 0, 0, []), some (.getfield 37, 0, 8, [(1047, 0)]), none, none, some (.iload_n 1, 1, 0, []), some (.iaload, 0, 0, []), some (.iconst 5, 5, 0, []), some (.if_icmp .lt 5, 12, 0, []), none, none, some (.iconst 0, 0, 0, []), some (.ireturn, 1, 0, []), some (.aload_n 0, 0, 0, []), some (.getfield 40, 0, 9, [(1050, 0)]), none, none, some (.iload_n 1, 1, 0, []), some (.iconst 5, 5, 0, []), some (.imul, 0, 0, []), some (.aload_n 0, 0, 0, []), some (.getfield 37, 0, 8, [(1047, 0)]), none, none, some (.iload_n 1, 1, 0, []), some (.iaload, 0, 0, []), some (.iadd, 0, 0, []), some (.iload_n 2, 2, 0, []), some (.iastore, 0, 0, []), some (.aload_n 0, 0, 0, []), some (.getfield 37, 0, 8, [(1047, 0)]), none, none, some (.iload_n 1, 1, 0, []), some (.dup2, 0, 0, []), some (.iaload, 0, 0, []), some (.iconst 1, 1, 0, []), some (.iadd, 0, 0, []), some (.iastore, 0, 0, []), some (.iconst 1, 1, 0, []), some (.ireturn, 1, 0, [])]
noncomputable def E_X1_keep : ts_E := fun _ _ _ => none
noncomputable def F_X1_keep : List ts_V → ts_S → Option ts_A := ts_Fn E_X1_keep tb_X1_keep 3
set_option maxRecDepth 20000 in
theorem ok_X1_keep : ts_tbo 0 ts_mi [] (ts_mi 21).1.cls (ts_mi 21).2.2.2.1 (ts_mi 21).2.1 0 tb_X1_keep = true := by decide +kernel
theorem con_X1_keep {X : ts_X} {l : Launch} (hJ : ts_J X l) : ts_Met X l (ts_mi 21) 0 F_X1_keep := ts_con (ts_mi 21) 0 (E := E_X1_keep) (mi := ts_mi) (cs := []) (tb := tb_X1_keep) (plainFor_of_name (by decide +kernel)) hJ.1 (fun _ h => absurd h List.not_mem_nil) ok_X1_keep
def tb_X1_dropKept : List (Option ts_I) := [some (.iload_n 1, 1, 0, []), some (.iconst 5, 5, 0, []), some (.imul, 0, 0, []), some (.istore_n 3, 3, 0, []), some (.iload_n 2, 2, 0, []), some (.istore 4, 4, 0, []), none, some (.iload 4, 4, 0, []), none, some (.aload_n 0, 0, 0, []), some (.getfield 37, 0, 8, [(1047, 0)]), none, none, some (.iload_n 1, 1, 0, []), some (.iaload, 0, 0, []), some (.iconst 1, 1, 0, []), some (.isub, 0, 0, []), some (.if_icmp .ge 29, 46, 0, []), none, none, some (.aload_n 0, 0, 0, []), some (.getfield 40, 0, 9, [(1050, 0)]), none, none, some (.iload_n 3, 3, 0, []), some (.iload 4, 4, 0, []), none, some (.iadd, 0, 0, []), some (.aload_n 0, 0, 0, []), some (.getfield 40, 0, 9, [(1050, 0)]), none, none, some (.iload_n 3, 3, 0, []), some (.iload 4, 4, 0, []), none, some (.iadd, 0, 0, []), some (.iconst 1, 1, 0, []), some (.iadd, 0, 0, []), some (.iaload, 0, 0, []), some (.iastore, 0, 0, []), some (.iinc 4 1, 4, 1, []), none, none, some (.goto (-36), 7, 0, []), none, none, some (.aload_n 0, 0, 0, []), some (.getfield 37, 0, 8, [(1047, 0)]), none, none, some (.iload_n 1, 1, 0, []), some (.dup2, 0, 0, []), some (.iaload, 0, 0, []), some (.iconst 1, 1, 0, []), some (.isub, 0, 0, []), some (.iastore, 0, 0, []), some (.return_, 0, 0, [])]
noncomputable def E_X1_dropKept : ts_E := fun _ _ _ => none
noncomputable def F_X1_dropKept : List ts_V → ts_S → Option ts_A := ts_Fn E_X1_dropKept tb_X1_dropKept 5
set_option maxRecDepth 20000 in
theorem ok_X1_dropKept : ts_tbo 0 ts_mi [] (ts_mi 22).1.cls (ts_mi 22).2.2.2.1 (ts_mi 22).2.1 0 tb_X1_dropKept = true := by decide +kernel
theorem con_X1_dropKept {X : ts_X} {l : Launch} (hJ : ts_J X l) : ts_Met X l (ts_mi 22) 0 F_X1_dropKept := ts_con (ts_mi 22) 0 (E := E_X1_dropKept) (mi := ts_mi) (cs := []) (tb := tb_X1_dropKept) (plainFor_of_name (by decide +kernel)) hJ.1 (fun _ h => absurd h List.not_mem_nil) ok_X1_dropKept
def tb_X1_placeGiven : List (Option ts_I) := [some (.aload_n 0, 0, 0, []), some (.getfield 28, 0, 5, [(1040, 0)]), none, none, some (.iload_n 1, 1, 0, []), some (.iaload, 0, 0, []), some (.aload_n 0, 0, 0, []), some (.getfield 37, 0, 8, [(1047, 0)]), none, none, some (.iload_n 1, 1, 0, []), some (.iaload, 0, 0, []), some (.aload_n 0, 0, 0, []), some (.getfield 31, 0, 6, [(1042, 0)]), none, none, some (.iload_n 1, 1, 0, []), some (.iaload, 0, 0, []), some (.invokestatic 68, 11, 3, [(1220, 9), (0, 0)]), none, none, some (.ireturn, 0, 0, [])]
noncomputable def E_X1_placeGiven : ts_E := fun z => if z = 11 then F_X0_placeGiven else fun _ _ => none
noncomputable def F_X1_placeGiven : List ts_V → ts_S → Option ts_A := ts_Fn E_X1_placeGiven tb_X1_placeGiven 2
set_option maxRecDepth 20000 in
theorem ok_X1_placeGiven : ts_tbo 1 ts_mi [11] (ts_mi 23).1.cls (ts_mi 23).2.2.2.1 (ts_mi 23).2.1 0 tb_X1_placeGiven = true := by decide +kernel
theorem con_X1_placeGiven {X : ts_X} {l : Launch} (hJ : ts_J X l) : ts_Met X l (ts_mi 23) 1 F_X1_placeGiven := ts_con (ts_mi 23) 1 (E := E_X1_placeGiven) (mi := ts_mi) (cs := [11]) (tb := tb_X1_placeGiven) (plainFor_of_name (by decide +kernel)) hJ.1 (List.forall_mem_cons.mpr ⟨⟨mw_11, 0, by decide, con_X0_placeGiven hJ⟩, fun _ h => absurd h List.not_mem_nil⟩) ok_X1_placeGiven
def tb_X1_tellSill : List (Option ts_I) := [some (.iload_n 2, 2, 0, []), some (.tableswitch 83 0 5 #[39, 46, 53, 60, 67, 77], 84, 39, [(0, 40), (1, 47), (2, 54), (3, 61), (4, 68), (5, 78)]), none, none, none, none, none, none, none, none, none, none, none, none, none, none, none, none, none, none, none, none, none, none, none, none, none, none, none, none, none, none, none, none, none, none, none, none, none, none, some (.aload_n 0, 0, 0, []), some (.getfield 28, 0, 5, [(1040, 0)]), none, none, some (.iload_n 1, 1, 0, []), some (.iaload, 0, 0, []), some (.ireturn, 0, 0, []), some (.aload_n 0, 0, 0, []), some (.getfield 37, 0, 8, [(1047, 0)]), none, none, some (.iload_n 1, 1, 0, []), some (.iaload, 0, 0, []), some (.ireturn, 0, 0, []), some (.aload_n 0, 0, 0, []), some (.getfield 31, 0, 6, [(1042, 0)]), none, none, some (.iload_n 1, 1, 0, []), some (.iaload, 0, 0, []), some (.ireturn, 0, 0, []), some (.aload_n 0, 0, 0, []), some (.getfield 34, 0, 7, [(1044, 0)]), none, none, some (.iload_n 1, 1, 0, []), some (.iaload, 0, 0, []), some (.ireturn, 0, 0, []), some (.aload_n 0, 0, 0, []), some (.getfield 28, 0, 5, [(1040, 0)]), none, none, some (.iload_n 1, 1, 0, []), some (.iaload, 0, 0, []), some (.invokestatic 74, 7, 1, [(1209, 9), (0, 0)]), none, none, some (.ireturn, 0, 0, []), some (.aload_n 0, 0, 0, []), some (.iload_n 1, 1, 0, []), some (.invokevirtual 78, 20, 2, [(1212, 0), (0, 0)]), none, none, some (.ireturn, 0, 0, []), some (.aload_n 0, 0, 0, []), some (.iload_n 1, 1, 0, []), some (.aload_n 0, 0, 0, []), some (.iload_n 1, 1, 0, []), some (.invokevirtual 81, 23, 2, [(1216, 0), (0, 0)]), none, none, some (.invokevirtual 83, 19, 3, [(1223, 0), (0, 0)]), none, none, some (.ireturn, 0, 0, [])]
noncomputable def E_X1_tellSill : ts_E := fun z => if z = 7 then F_X0_mostHeld else if z = 20 then F_X1_keptSet else if z = 23 then F_X1_placeGiven else if z = 19 then F_X1_keptAt else fun _ _ => none
noncomputable def F_X1_tellSill : List ts_V → ts_S → Option ts_A := ts_Fn E_X1_tellSill tb_X1_tellSill 3
set_option maxRecDepth 20000 in
theorem ok_X1_tellSill : ts_tbo 2 ts_mi [7, 20, 23, 19] (ts_mi 24).1.cls (ts_mi 24).2.2.2.1 (ts_mi 24).2.1 0 tb_X1_tellSill = true := by decide +kernel
theorem con_X1_tellSill {X : ts_X} {l : Launch} (hJ : ts_J X l) : ts_Met X l (ts_mi 24) 2 F_X1_tellSill := ts_con (ts_mi 24) 2 (E := E_X1_tellSill) (mi := ts_mi) (cs := [7, 20, 23, 19]) (tb := tb_X1_tellSill) (plainFor_of_name (by decide +kernel)) hJ.1 (List.forall_mem_cons.mpr ⟨⟨mw_7, 0, by decide, con_X0_mostHeld hJ⟩, List.forall_mem_cons.mpr ⟨⟨mw_20, 0, by decide, con_X1_keptSet hJ⟩, List.forall_mem_cons.mpr ⟨⟨mw_23, 1, by decide, con_X1_placeGiven hJ⟩, List.forall_mem_cons.mpr ⟨⟨mw_19, 1, by decide, con_X1_keptAt hJ⟩, fun _ h => absurd h List.not_mem_nil⟩⟩⟩⟩) ok_X1_tellSill
def tb_X1_tellPerson : List (Option ts_I) := [some (.iload_n 2, 2, 0, []), some (.lookupswitch 41 #[(0, 27), (1, 34)], 42, 27, [(0, 28), (1, 35)]), none, none, none, none, none, none, none, none, none, none, none, none, none, none, none, none, none, none, none, none, none, none, none, none, none, none, some (.aload_n 0, 0, 0, []), some (.getfield 46, 0, 11, [(1053, 0)]), none, none, some (.iload_n 1, 1, 0, []), some (.iaload, 0, 0, []), some (.ireturn, 0, 0, []), some (.aload_n 0, 0, 0, []), some (.getfield 49, 0, 12, [(1056, 0)]), none, none, some (.iload_n 1, 1, 0, []), some (.iaload, 0, 0, []), some (.ireturn, 0, 0, []), some (.aload_n 0, 0, 0, []), some (.getfield 52, 0, 13, [(1059, 0)]), none, none, some (.iload_n 1, 1, 0, []), some (.iaload, 0, 0, []), some (.ireturn, 0, 0, [])]
noncomputable def E_X1_tellPerson : ts_E := fun _ _ _ => none
noncomputable def F_X1_tellPerson : List ts_V → ts_S → Option ts_A := ts_Fn E_X1_tellPerson tb_X1_tellPerson 3
set_option maxRecDepth 20000 in
theorem ok_X1_tellPerson : ts_tbo 0 ts_mi [] (ts_mi 25).1.cls (ts_mi 25).2.2.2.1 (ts_mi 25).2.1 0 tb_X1_tellPerson = true := by decide +kernel
theorem con_X1_tellPerson {X : ts_X} {l : Launch} (hJ : ts_J X l) : ts_Met X l (ts_mi 25) 0 F_X1_tellPerson := ts_con (ts_mi 25) 0 (E := E_X1_tellPerson) (mi := ts_mi) (cs := []) (tb := tb_X1_tellPerson) (plainFor_of_name (by decide +kernel)) hJ.1 (fun _ h => absurd h List.not_mem_nil) ok_X1_tellPerson
def tb_X1_mayCross : List (Option ts_I) := [some (.aload_n 0, 0, 0, []), some (.getfield 34, 0, 7, [(1044, 0)]), none, none, some (.iload_n 2, 2, 0, []), some (.iaload, 0, 0, []), some (.ifCond .ne 27, 33, 0, []), none, none, some (.aload_n 0, 0, 0, []), some (.getfield 49, 0, 12, [(1056, 0)]), none, none, some (.iload_n 1, 1, 0, []), some (.iaload, 0, 0, []), some (.iconst (-1), 4294967295, 0, []), some (.if_icmp .eq 13, 29, 0, []), none, none, some (.aload_n 0, 0, 0, []), some (.getfield 49, 0, 12, [(1056, 0)]), none, none, some (.iload_n 1, 1, 0, []), some (.iaload, 0, 0, []), some (.iload_n 2, 2, 0, []), some (.if_icmp .ne 7, 33, 0, []), none, none, some (.iconst 1, 1, 0, []), some (.goto 4, 34, 0, []), none, none, some (.iconst 0, 0, 0, []), some (.ireturn, 1, 0, [])]
noncomputable def E_X1_mayCross : ts_E := fun _ _ _ => none
noncomputable def F_X1_mayCross : List ts_V → ts_S → Option ts_A := ts_Fn E_X1_mayCross tb_X1_mayCross 3
set_option maxRecDepth 20000 in
theorem ok_X1_mayCross : ts_tbo 0 ts_mi [] (ts_mi 26).1.cls (ts_mi 26).2.2.2.1 (ts_mi 26).2.1 0 tb_X1_mayCross = true := by decide +kernel
theorem con_X1_mayCross {X : ts_X} {l : Launch} (hJ : ts_J X l) : ts_Met X l (ts_mi 26) 0 F_X1_mayCross := ts_con (ts_mi 26) 0 (E := E_X1_mayCross) (mi := ts_mi) (cs := []) (tb := tb_X1_mayCross) (plainFor_of_name (by decide +kernel)) hJ.1 (fun _ h => absurd h List.not_mem_nil) ok_X1_mayCross
def tb_J9_min_7cf53 : List (Option ts_I) := [some (.iload_n 0, 0, 0, []), some (.iload_n 1, 1, 0, []), some (.if_icmp .gt 7, 9, 0, []), none, none, some (.iload_n 0, 0, 0, []), some (.goto 4, 10, 0, []), none, none, some (.iload_n 1, 1, 0, []), some (.ireturn, 0, 0, [])]
noncomputable def E_J9_min_7cf53 : ts_E := fun _ _ _ => none
noncomputable def F_J9_min_7cf53 : List ts_V → ts_S → Option ts_A := ts_Fn E_J9_min_7cf53 tb_J9_min_7cf53 2
set_option maxRecDepth 20000 in
theorem ok_J9_min_7cf53 : ts_tbo 0 ts_mi [] (ts_mi 27).1.cls (ts_mi 27).2.2.2.1 (ts_mi 27).2.1 0 tb_J9_min_7cf53 = true := by decide +kernel
theorem con_J9_min_7cf53 {X : ts_X} {l : Launch} (hJ : ts_J X l) : ts_Met X l (ts_mi 27) 0 F_J9_min_7cf53 := ts_con (ts_mi 27) 0 (E := E_J9_min_7cf53) (mi := ts_mi) (cs := []) (tb := tb_J9_min_7cf53) (by decide +kernel) hJ.1 (fun _ h => absurd h List.not_mem_nil) ok_J9_min_7cf53
def tb_X1_loseWord : List (Option ts_I) := [some (.aload_n 0, 0, 0, []), some (.aload_n 0, 0, 0, []), some (.getfield 15, 0, 1, [(1031, 0)]), none, none, some (.iconst 1, 1, 0, []), some (.iadd, 0, 0, []), some (.ldc 124, 99999, 0, [(2062, 0)]), none, some (.invokestatic 103, 27, 2, [(2063, 9), (0, 0)]), none, none, some (.putfield 15, 0, 1, [(1031, 0)]), none, none, some (.return_, 0, 0, [])]
noncomputable def E_X1_loseWord : ts_E := fun z => if z = 27 then F_J9_min_7cf53 else fun _ _ => none
noncomputable def F_X1_loseWord : List ts_V → ts_S → Option ts_A := ts_Fn E_X1_loseWord tb_X1_loseWord 1
set_option maxRecDepth 20000 in
theorem ok_X1_loseWord : ts_tbo 1 ts_mi [27] (ts_mi 28).1.cls (ts_mi 28).2.2.2.1 (ts_mi 28).2.1 0 tb_X1_loseWord = true := by decide +kernel
theorem con_X1_loseWord {X : ts_X} {l : Launch} (hJ : ts_J X l) : ts_Met X l (ts_mi 28) 1 F_X1_loseWord := ts_con (ts_mi 28) 1 (E := E_X1_loseWord) (mi := ts_mi) (cs := [27]) (tb := tb_X1_loseWord) (plainFor_of_name (by decide +kernel)) hJ.1 (List.forall_mem_cons.mpr ⟨⟨mw_27, 0, by decide, con_J9_min_7cf53 hJ⟩, fun _ h => absurd h List.not_mem_nil⟩) ok_X1_loseWord
def tb_X1_goIn : List (Option ts_I) := [some (.aload_n 0, 0, 0, []), some (.getfield 49, 0, 12, [(1056, 0)]), none, none, some (.iload_n 1, 1, 0, []), some (.iload_n 2, 2, 0, []), some (.iastore, 0, 0, []), some (.aload_n 0, 0, 0, []), some (.getfield 28, 0, 5, [(1040, 0)]), none, none, some (.iload_n 2, 2, 0, []), some (.iaload, 0, 0, []), some (.aload_n 0, 0, 0, []), some (.getfield 46, 0, 11, [(1053, 0)]), none, none, some (.iload_n 1, 1, 0, []), some (.iaload, 0, 0, []), some (.aload_n 0, 0, 0, []), some (.iload_n 2, 2, 0, []), some (.invokevirtual 78, 20, 2, [(1212, 0), (0, 0)]), none, none, some (.invokestatic 108, 10, 3, [(2056, 9), (0, 0)]), none, none, some (.istore_n 3, 3, 0, []), some (.iload_n 3, 3, 0, []), some (.iconst (-1), 4294967295, 0, []), some (.if_icmp .ne 5, 35, 0, []), none, none, some (.iconst (-1), 4294967295, 0, []), some (.ireturn, 0, 0, []), some (.aload_n 0, 0, 0, []), some (.getfield 46, 0, 11, [(1053, 0)]), none, none, some (.iload_n 1, 1, 0, []), some (.dup2, 0, 0, []), some (.iaload, 0, 0, []), some (.iconst 1, 1, 0, []), some (.iload_n 3, 3, 0, []), some (.ishl, 0, 0, []), some (.iconst (-1), 4294967295, 0, []), some (.ixor, 0, 0, []), some (.iand, 0, 0, []), some (.iastore, 0, 0, []), some (.aload_n 0, 0, 0, []), some (.getfield 37, 0, 8, [(1047, 0)]), none, none, some (.iload_n 2, 2, 0, []), some (.iaload, 0, 0, []), some (.aload_n 0, 0, 0, []), some (.getfield 28, 0, 5, [(1040, 0)]), none, none, some (.iload_n 2, 2, 0, []), some (.iaload, 0, 0, []), some (.invokestatic 74, 7, 1, [(1209, 9), (0, 0)]), none, none, some (.if_icmp .ge 7, 71, 0, []), none, none, some (.iconst 1, 1, 0, []), some (.goto 4, 72, 0, []), none, none, some (.iconst 0, 0, 0, []), some (.istore 4, 4, 0, []), none, some (.iload 4, 4, 0, []), none, some (.ifCond .eq 12, 88, 0, []), none, none, some (.aload_n 0, 0, 0, []), some (.iload_n 2, 2, 0, []), some (.iload_n 3, 3, 0, []), some (.invokevirtual 111, 21, 3, [(2057, 0), (0, 0)]), none, none, some (.ifCond .ne 7, 92, 0, []), none, none, some (.aload_n 0, 0, 0, []), some (.invokevirtual 114, 28, 1, [(2058, 0), (1, 0)]), none, none, some (.iload_n 3, 3, 0, []), some (.ireturn, 0, 0, [])]
noncomputable def E_X1_goIn : ts_E := fun z => if z = 20 then F_X1_keptSet else if z = 10 then F_X0_wordTaken else if z = 7 then F_X0_mostHeld else if z = 21 then F_X1_keep else if z = 28 then F_X1_loseWord else fun _ _ => none
noncomputable def F_X1_goIn : List ts_V → ts_S → Option ts_A := ts_Fn E_X1_goIn tb_X1_goIn 5
set_option maxRecDepth 20000 in
theorem ok_X1_goIn : ts_tbo 2 ts_mi [20, 10, 7, 21, 28] (ts_mi 29).1.cls (ts_mi 29).2.2.2.1 (ts_mi 29).2.1 0 tb_X1_goIn = true := by decide +kernel
theorem con_X1_goIn {X : ts_X} {l : Launch} (hJ : ts_J X l) : ts_Met X l (ts_mi 29) 2 F_X1_goIn := ts_con (ts_mi 29) 2 (E := E_X1_goIn) (mi := ts_mi) (cs := [20, 10, 7, 21, 28]) (tb := tb_X1_goIn) (plainFor_of_name (by decide +kernel)) hJ.1 (List.forall_mem_cons.mpr ⟨⟨mw_20, 0, by decide, con_X1_keptSet hJ⟩, List.forall_mem_cons.mpr ⟨⟨mw_10, 1, by decide, con_X0_wordTaken hJ⟩, List.forall_mem_cons.mpr ⟨⟨mw_7, 0, by decide, con_X0_mostHeld hJ⟩, List.forall_mem_cons.mpr ⟨⟨mw_21, 0, by decide, con_X1_keep hJ⟩, List.forall_mem_cons.mpr ⟨⟨mw_28, 1, by decide, con_X1_loseWord hJ⟩, fun _ h => absurd h List.not_mem_nil⟩⟩⟩⟩⟩) ok_X1_goIn
def tb_X1_comeOut : List (Option ts_I) := [some (.aload_n 0, 0, 0, []), some (.getfield 49, 0, 12, [(1056, 0)]), none, none, some (.iload_n 1, 1, 0, []), some (.iconst (-1), 4294967295, 0, []), some (.iastore, 0, 0, []), some (.aload_n 0, 0, 0, []), some (.iload_n 2, 2, 0, []), some (.invokevirtual 81, 23, 2, [(1216, 0), (0, 0)]), none, none, some (.istore_n 3, 3, 0, []), some (.aload_n 0, 0, 0, []), some (.iload_n 2, 2, 0, []), some (.iload_n 3, 3, 0, []), some (.invokevirtual 83, 19, 3, [(1223, 0), (0, 0)]), none, none, some (.istore 4, 4, 0, []), none, some (.iload 4, 4, 0, []), none, some (.iconst (-1), 4294967295, 0, []), some (.if_icmp .ne 5, 29, 0, []), none, none, some (.iconst (-1), 4294967295, 0, []), some (.ireturn, 0, 0, []), some (.aload_n 0, 0, 0, []), some (.iload_n 2, 2, 0, []), some (.iload_n 3, 3, 0, []), some (.invokevirtual 117, 22, 3, [(2070, 0), (1, 0)]), none, none, some (.aload_n 0, 0, 0, []), some (.iload_n 1, 1, 0, []), some (.iload 4, 4, 0, []), none, some (.invokevirtual 121, 16, 3, [(2074, 0), (0, 0)]), none, none, some (.ifCond .eq 7, 49, 0, []), none, none, some (.aload_n 0, 0, 0, []), some (.invokevirtual 114, 28, 1, [(2058, 0), (1, 0)]), none, none, some (.aload_n 0, 0, 0, []), some (.getfield 46, 0, 11, [(1053, 0)]), none, none, some (.iload_n 1, 1, 0, []), some (.dup2, 0, 0, []), some (.iaload, 0, 0, []), some (.iconst 1, 1, 0, []), some (.iload 4, 4, 0, []), none, some (.ishl, 0, 0, []), some (.ior, 0, 0, []), some (.iastore, 0, 0, []), some (.iload 4, 4, 0, []), none, some (.ireturn, 0, 0, [])]
noncomputable def E_X1_comeOut : ts_E := fun z => if z = 23 then F_X1_placeGiven else if z = 19 then F_X1_keptAt else if z = 22 then F_X1_dropKept else if z = 16 then F_X1_hasWord else if z = 28 then F_X1_loseWord else fun _ _ => none
noncomputable def F_X1_comeOut : List ts_V → ts_S → Option ts_A := ts_Fn E_X1_comeOut tb_X1_comeOut 5
set_option maxRecDepth 20000 in
theorem ok_X1_comeOut : ts_tbo 2 ts_mi [23, 19, 22, 16, 28] (ts_mi 30).1.cls (ts_mi 30).2.2.2.1 (ts_mi 30).2.1 0 tb_X1_comeOut = true := by decide +kernel
theorem con_X1_comeOut {X : ts_X} {l : Launch} (hJ : ts_J X l) : ts_Met X l (ts_mi 30) 2 F_X1_comeOut := ts_con (ts_mi 30) 2 (E := E_X1_comeOut) (mi := ts_mi) (cs := [23, 19, 22, 16, 28]) (tb := tb_X1_comeOut) (plainFor_of_name (by decide +kernel)) hJ.1 (List.forall_mem_cons.mpr ⟨⟨mw_23, 1, by decide, con_X1_placeGiven hJ⟩, List.forall_mem_cons.mpr ⟨⟨mw_19, 1, by decide, con_X1_keptAt hJ⟩, List.forall_mem_cons.mpr ⟨⟨mw_22, 0, by decide, con_X1_dropKept hJ⟩, List.forall_mem_cons.mpr ⟨⟨mw_16, 0, by decide, con_X1_hasWord hJ⟩, List.forall_mem_cons.mpr ⟨⟨mw_28, 1, by decide, con_X1_loseWord hJ⟩, fun _ h => absurd h List.not_mem_nil⟩⟩⟩⟩⟩) ok_X1_comeOut
def tb_X1_makeCrossing : List (Option ts_I) := [some (.aload_n 0, 0, 0, []), some (.iload_n 1, 1, 0, []), some (.invokevirtual 87, 15, 2, [(2049, 0), (0, 0)]), none, none, some (.ifCond .eq 20, 25, 0, []), none, none, some (.aload_n 0, 0, 0, []), some (.iload_n 2, 2, 0, []), some (.invokevirtual 91, 14, 2, [(2050, 0), (0, 0)]), none, none, some (.ifCond .eq 12, 25, 0, []), none, none, some (.aload_n 0, 0, 0, []), some (.iload_n 1, 1, 0, []), some (.iload_n 2, 2, 0, []), some (.invokevirtual 94, 26, 3, [(2051, 0), (0, 0)]), none, none, some (.ifCond .ne 5, 27, 0, []), none, none, some (.iconst (-1), 4294967295, 0, []), some (.ireturn, 0, 0, []), some (.aload_n 0, 0, 0, []), some (.getfield 49, 0, 12, [(1056, 0)]), none, none, some (.iload_n 1, 1, 0, []), some (.iaload, 0, 0, []), some (.iconst (-1), 4294967295, 0, []), some (.if_icmp .ne 12, 46, 0, []), none, none, some (.aload_n 0, 0, 0, []), some (.iload_n 1, 1, 0, []), some (.iload_n 2, 2, 0, []), some (.invokevirtual 97, 29, 3, [(2052, 0), (0, 0)]), none, none, some (.goto 9, 52, 0, []), none, none, some (.aload_n 0, 0, 0, []), some (.iload_n 1, 1, 0, []), some (.iload_n 2, 2, 0, []), some (.invokevirtual 100, 30, 3, [(2066, 0), (0, 0)]), none, none, some (.istore_n 3, 3, 0, []), some (.aload_n 0, 0, 0, []), some (.getfield 31, 0, 6, [(1042, 0)]), none, none, some (.iload_n 2, 2, 0, []), some (.aload_n 0, 0, 0, []), some (.getfield 31, 0, 6, [(1042, 0)]), none, none, some (.iload_n 2, 2, 0, []), some (.iaload, 0, 0, []), some (.iconst 1, 1, 0, []), some (.iadd, 0, 0, []), some (.sipush 9999, 9999, 0, []), none, none, some (.invokestatic 103, 27, 2, [(2063, 9), (0, 0)]), none, none, some (.iastore, 0, 0, []), some (.aload_n 0, 0, 0, []), some (.getfield 52, 0, 13, [(1059, 0)]), none, none, some (.iload_n 1, 1, 0, []), some (.aload_n 0, 0, 0, []), some (.getfield 52, 0, 13, [(1059, 0)]), none, none, some (.iload_n 1, 1, 0, []), some (.iaload, 0, 0, []), some (.iconst 1, 1, 0, []), some (.iadd, 0, 0, []), some (.sipush 9999, 9999, 0, []), none, none, some (.invokestatic 103, 27, 2, [(2063, 9), (0, 0)]), none, none, some (.iastore, 0, 0, []), some (.iload_n 3, 3, 0, []), some (.ireturn, 0, 0, [])]
noncomputable def E_X1_makeCrossing : ts_E := fun z => if z = 15 then F_X1_isPerson else if z = 14 then F_X1_isSill else if z = 26 then F_X1_mayCross else if z = 29 then F_X1_goIn else if z = 30 then F_X1_comeOut else if z = 27 then F_J9_min_7cf53 else fun _ _ => none
noncomputable def F_X1_makeCrossing : List ts_V → ts_S → Option ts_A := ts_Fn E_X1_makeCrossing tb_X1_makeCrossing 4
set_option maxRecDepth 20000 in
theorem ok_X1_makeCrossing : ts_tbo 3 ts_mi [15, 14, 26, 29, 30, 27] (ts_mi 31).1.cls (ts_mi 31).2.2.2.1 (ts_mi 31).2.1 0 tb_X1_makeCrossing = true := by decide +kernel
theorem con_X1_makeCrossing {X : ts_X} {l : Launch} (hJ : ts_J X l) : ts_Met X l (ts_mi 31) 3 F_X1_makeCrossing := ts_con (ts_mi 31) 3 (E := E_X1_makeCrossing) (mi := ts_mi) (cs := [15, 14, 26, 29, 30, 27]) (tb := tb_X1_makeCrossing) (plainFor_of_name (by decide +kernel)) hJ.1 (List.forall_mem_cons.mpr ⟨⟨mw_15, 1, by decide, con_X1_isPerson hJ⟩, List.forall_mem_cons.mpr ⟨⟨mw_14, 1, by decide, con_X1_isSill hJ⟩, List.forall_mem_cons.mpr ⟨⟨mw_26, 0, by decide, con_X1_mayCross hJ⟩, List.forall_mem_cons.mpr ⟨⟨mw_29, 2, by decide, con_X1_goIn hJ⟩, List.forall_mem_cons.mpr ⟨⟨mw_30, 2, by decide, con_X1_comeOut hJ⟩, List.forall_mem_cons.mpr ⟨⟨mw_27, 0, by decide, con_J9_min_7cf53 hJ⟩, fun _ h => absurd h List.not_mem_nil⟩⟩⟩⟩⟩⟩) ok_X1_makeCrossing
def tb_J9_floorMod_7cf53 : List (Option ts_I) := [some (.iload_n 0, 0, 0, []), some (.iload_n 1, 1, 0, []), some (.irem, 0, 0, []), some (.istore_n 2, 2, 0, []), some (.iload_n 0, 0, 0, []), some (.iload_n 1, 1, 0, []), some (.ixor, 0, 0, []), some (.ifCond .ge 11, 18, 0, []), none, none, some (.iload_n 2, 2, 0, []), some (.ifCond .eq 7, 18, 0, []), none, none, some (.iload_n 2, 2, 0, []), some (.iload_n 1, 1, 0, []), some (.iadd, 0, 0, []), some (.ireturn, 0, 0, []), some (.iload_n 2, 2, 0, []), some (.ireturn, 0, 0, [])]
noncomputable def E_J9_floorMod_7cf53 : ts_E := fun _ _ _ => none
noncomputable def F_J9_floorMod_7cf53 : List ts_V → ts_S → Option ts_A := ts_Fn E_J9_floorMod_7cf53 tb_J9_floorMod_7cf53 3
set_option maxRecDepth 20000 in
theorem ok_J9_floorMod_7cf53 : ts_tbo 0 ts_mi [] (ts_mi 32).1.cls (ts_mi 32).2.2.2.1 (ts_mi 32).2.1 0 tb_J9_floorMod_7cf53 = true := by decide +kernel
theorem con_J9_floorMod_7cf53 {X : ts_X} {l : Launch} (hJ : ts_J X l) : ts_Met X l (ts_mi 32) 0 F_J9_floorMod_7cf53 := ts_con (ts_mi 32) 0 (E := E_J9_floorMod_7cf53) (mi := ts_mi) (cs := []) (tb := tb_J9_floorMod_7cf53) (by decide +kernel) hJ.1 (fun _ h => absurd h List.not_mem_nil) ok_J9_floorMod_7cf53
def tb_X1_placeOfToday : List (Option ts_I) := [some (.aload_n 0, 0, 0, []), some (.getfield 19, 0, 2, [(1033, 0)]), none, none, some (.bipush 6, 6, 0, []), none, some (.invokestatic 125, 32, 2, [(2091, 9), (0, 0)]), none, none, some (.ireturn, 0, 0, [])]
noncomputable def E_X1_placeOfToday : ts_E := fun z => if z = 32 then F_J9_floorMod_7cf53 else fun _ _ => none
noncomputable def F_X1_placeOfToday : List ts_V → ts_S → Option ts_A := ts_Fn E_X1_placeOfToday tb_X1_placeOfToday 1
set_option maxRecDepth 20000 in
theorem ok_X1_placeOfToday : ts_tbo 1 ts_mi [32] (ts_mi 33).1.cls (ts_mi 33).2.2.2.1 (ts_mi 33).2.1 0 tb_X1_placeOfToday = true := by decide +kernel
theorem con_X1_placeOfToday {X : ts_X} {l : Launch} (hJ : ts_J X l) : ts_Met X l (ts_mi 33) 1 F_X1_placeOfToday := ts_con (ts_mi 33) 1 (E := E_X1_placeOfToday) (mi := ts_mi) (cs := [32]) (tb := tb_X1_placeOfToday) (plainFor_of_name (by decide +kernel)) hJ.1 (List.forall_mem_cons.mpr ⟨⟨mw_32, 0, by decide, con_J9_floorMod_7cf53 hJ⟩, fun _ h => absurd h List.not_mem_nil⟩) ok_X1_placeOfToday
def tb_X1_passDays : List (Option ts_I) := [some (.iconst 0, 0, 0, []), some (.istore_n 2, 2, 0, []), some (.iload_n 2, 2, 0, []), some (.iload_n 1, 1, 0, []), some (.if_icmp .ge 47, 51, 0, []), none, none, some (.aload_n 0, 0, 0, []), some (.getfield 9, 0, 0, [(1028, 0)]), none, none, some (.aload_n 0, 0, 0, []), some (.invokevirtual 128, 33, 1, [(2087, 0), (0, 0)]), none, none, some (.iaload, 0, 0, []), some (.istore_n 3, 3, 0, []), some (.aload_n 0, 0, 0, []), some (.iload_n 3, 3, 0, []), some (.bipush 10, 10, 0, []), none, some (.idiv, 0, 0, []), some (.iload_n 3, 3, 0, []), some (.bipush 10, 10, 0, []), none, some (.irem, 0, 0, []), some (.invokevirtual 132, 31, 3, [(2094, 0), (0, 0)]), none, none, some (.pop, 0, 0, []), some (.aload_n 0, 0, 0, []), some (.aload_n 0, 0, 0, []), some (.getfield 19, 0, 2, [(1033, 0)]), none, none, some (.iconst 1, 1, 0, []), some (.iadd, 0, 0, []), some (.ldc 124, 99999, 0, [(2062, 0)]), none, some (.invokestatic 103, 27, 2, [(2063, 9), (0, 0)]), none, none, some (.putfield 19, 0, 2, [(1033, 0)]), none, none, some (.iinc 2 1, 2, 1, []), none, none, some (.goto (-46), 2, 0, [(3, 0)]), none, none, some (.return_, 0, 0, [])]
noncomputable def E_X1_passDays : ts_E := fun z => if z = 33 then F_X1_placeOfToday else if z = 31 then F_X1_makeCrossing else if z = 27 then F_J9_min_7cf53 else fun _ _ => none
noncomputable def F_X1_passDays : List ts_V → ts_S → Option ts_A := ts_Fn E_X1_passDays tb_X1_passDays 4
set_option maxRecDepth 20000 in
theorem ok_X1_passDays : ts_tbo 4 ts_mi [33, 31, 27] (ts_mi 34).1.cls (ts_mi 34).2.2.2.1 (ts_mi 34).2.1 0 tb_X1_passDays = true := by decide +kernel
theorem con_X1_passDays {X : ts_X} {l : Launch} (hJ : ts_J X l) : ts_Met X l (ts_mi 34) 4 F_X1_passDays := ts_con (ts_mi 34) 4 (E := E_X1_passDays) (mi := ts_mi) (cs := [33, 31, 27]) (tb := tb_X1_passDays) (plainFor_of_name (by decide +kernel)) hJ.1 (List.forall_mem_cons.mpr ⟨⟨mw_33, 1, by decide, con_X1_placeOfToday hJ⟩, List.forall_mem_cons.mpr ⟨⟨mw_31, 3, by decide, con_X1_makeCrossing hJ⟩, List.forall_mem_cons.mpr ⟨⟨mw_27, 0, by decide, con_J9_min_7cf53 hJ⟩, fun _ h => absurd h List.not_mem_nil⟩⟩⟩) ok_X1_passDays
def tb_X1_draw : List (Option ts_I) := [some (.aload_n 0, 0, 0, []), some (.aload_n 0, 0, 0, []), some (.getfield 22, 0, 3, [(1035, 0)]), none, none, some (.ldc 135, 1103515245, 0, [(2223, 0)]), none, some (.imul, 0, 0, []), some (.sipush 12345, 12345, 0, []), none, none, some (.iadd, 0, 0, []), some (.putfield 22, 0, 3, [(1035, 0)]), none, none, some (.aload_n 0, 0, 0, []), some (.getfield 22, 0, 3, [(1035, 0)]), none, none, some (.bipush 8, 8, 0, []), none, some (.iushr, 0, 0, []), some (.ireturn, 0, 0, [])]
noncomputable def E_X1_draw : ts_E := fun _ _ _ => none
noncomputable def F_X1_draw : List ts_V → ts_S → Option ts_A := ts_Fn E_X1_draw tb_X1_draw 1
set_option maxRecDepth 20000 in
theorem ok_X1_draw : ts_tbo 0 ts_mi [] (ts_mi 35).1.cls (ts_mi 35).2.2.2.1 (ts_mi 35).2.1 0 tb_X1_draw = true := by decide +kernel
theorem con_X1_draw {X : ts_X} {l : Launch} (hJ : ts_J X l) : ts_Met X l (ts_mi 35) 0 F_X1_draw := ts_con (ts_mi 35) 0 (E := E_X1_draw) (mi := ts_mi) (cs := []) (tb := tb_X1_draw) (plainFor_of_name (by decide +kernel)) hJ.1 (fun _ h => absurd h List.not_mem_nil) ok_X1_draw
def tb_X1_wordsHad : List (Option ts_I) := [some (.iconst 0, 0, 0, []), some (.istore_n 1, 1, 0, []), some (.iconst 0, 0, 0, []), some (.istore_n 2, 2, 0, []), some (.iload_n 2, 2, 0, []), some (.aload_n 0, 0, 0, []), some (.getfield 43, 0, 10, [(1051, 0)]), none, none, some (.if_icmp .ge 18, 27, 0, []), none, none, some (.iload_n 1, 1, 0, []), some (.aload_n 0, 0, 0, []), some (.getfield 46, 0, 11, [(1053, 0)]), none, none, some (.iload_n 2, 2, 0, []), some (.iaload, 0, 0, []), some (.ior, 0, 0, []), some (.istore_n 1, 1, 0, []), some (.iinc 2 1, 2, 1, []), none, none, some (.goto (-20), 4, 0, []), none, none, some (.iload_n 1, 1, 0, []), some (.ireturn, 0, 0, [])]
noncomputable def E_X1_wordsHad : ts_E := fun _ _ _ => none
noncomputable def F_X1_wordsHad : List ts_V → ts_S → Option ts_A := ts_Fn E_X1_wordsHad tb_X1_wordsHad 3
set_option maxRecDepth 20000 in
theorem ok_X1_wordsHad : ts_tbo 0 ts_mi [] (ts_mi 36).1.cls (ts_mi 36).2.2.2.1 (ts_mi 36).2.1 0 tb_X1_wordsHad = true := by decide +kernel
theorem con_X1_wordsHad {X : ts_X} {l : Launch} (hJ : ts_J X l) : ts_Met X l (ts_mi 36) 0 F_X1_wordsHad := ts_con (ts_mi 36) 0 (E := E_X1_wordsHad) (mi := ts_mi) (cs := []) (tb := tb_X1_wordsHad) (plainFor_of_name (by decide +kernel)) hJ.1 (fun _ h => absurd h List.not_mem_nil) ok_X1_wordsHad
def tb_X1_wordsKept : List (Option ts_I) := [some (.iconst 0, 0, 0, []), some (.istore_n 1, 1, 0, []), some (.iconst 0, 0, 0, []), some (.istore_n 2, 2, 0, []), some (.iload_n 2, 2, 0, []), some (.aload_n 0, 0, 0, []), some (.getfield 25, 0, 4, [(1037, 0)]), none, none, some (.if_icmp .ge 17, 26, 0, []), none, none, some (.iload_n 1, 1, 0, []), some (.aload_n 0, 0, 0, []), some (.iload_n 2, 2, 0, []), some (.invokevirtual 78, 20, 2, [(1212, 0), (0, 0)]), none, none, some (.ior, 0, 0, []), some (.istore_n 1, 1, 0, []), some (.iinc 2 1, 2, 1, []), none, none, some (.goto (-19), 4, 0, []), none, none, some (.iload_n 1, 1, 0, []), some (.ireturn, 0, 0, [])]
noncomputable def E_X1_wordsKept : ts_E := fun z => if z = 20 then F_X1_keptSet else fun _ _ => none
noncomputable def F_X1_wordsKept : List ts_V → ts_S → Option ts_A := ts_Fn E_X1_wordsKept tb_X1_wordsKept 3
set_option maxRecDepth 20000 in
theorem ok_X1_wordsKept : ts_tbo 1 ts_mi [20] (ts_mi 37).1.cls (ts_mi 37).2.2.2.1 (ts_mi 37).2.1 0 tb_X1_wordsKept = true := by decide +kernel
theorem con_X1_wordsKept {X : ts_X} {l : Launch} (hJ : ts_J X l) : ts_Met X l (ts_mi 37) 1 F_X1_wordsKept := ts_con (ts_mi 37) 1 (E := E_X1_wordsKept) (mi := ts_mi) (cs := [20]) (tb := tb_X1_wordsKept) (plainFor_of_name (by decide +kernel)) hJ.1 (List.forall_mem_cons.mpr ⟨⟨mw_20, 0, by decide, con_X1_keptSet hJ⟩, fun _ h => absurd h List.not_mem_nil⟩) ok_X1_wordsKept
def tb_X1_peopleInside : List (Option ts_I) := [some (.iconst 0, 0, 0, []), some (.istore_n 1, 1, 0, []), some (.iconst 0, 0, 0, []), some (.istore_n 2, 2, 0, []), some (.iload_n 2, 2, 0, []), some (.aload_n 0, 0, 0, []), some (.getfield 43, 0, 10, [(1051, 0)]), none, none, some (.if_icmp .ge 25, 34, 0, []), none, none, some (.aload_n 0, 0, 0, []), some (.getfield 49, 0, 12, [(1056, 0)]), none, none, some (.iload_n 2, 2, 0, []), some (.iaload, 0, 0, []), some (.iconst (-1), 4294967295, 0, []), some (.if_icmp .eq 9, 28, 0, []), none, none, some (.iload_n 1, 1, 0, []), some (.iconst 1, 1, 0, []), some (.iload_n 2, 2, 0, []), some (.ishl, 0, 0, []), some (.ior, 0, 0, []), some (.istore_n 1, 1, 0, []), some (.iinc 2 1, 2, 1, []), none, none, some (.goto (-27), 4, 0, []), none, none, some (.iload_n 1, 1, 0, []), some (.ireturn, 0, 0, [])]
noncomputable def E_X1_peopleInside : ts_E := fun _ _ _ => none
noncomputable def F_X1_peopleInside : List ts_V → ts_S → Option ts_A := ts_Fn E_X1_peopleInside tb_X1_peopleInside 3
set_option maxRecDepth 20000 in
theorem ok_X1_peopleInside : ts_tbo 0 ts_mi [] (ts_mi 38).1.cls (ts_mi 38).2.2.2.1 (ts_mi 38).2.1 0 tb_X1_peopleInside = true := by decide +kernel
theorem con_X1_peopleInside {X : ts_X} {l : Launch} (hJ : ts_J X l) : ts_Met X l (ts_mi 38) 0 F_X1_peopleInside := ts_con (ts_mi 38) 0 (E := E_X1_peopleInside) (mi := ts_mi) (cs := []) (tb := tb_X1_peopleInside) (plainFor_of_name (by decide +kernel)) hJ.1 (fun _ h => absurd h List.not_mem_nil) ok_X1_peopleInside
def tb_X1_peopleWithoutWords : List (Option ts_I) := [some (.iconst 0, 0, 0, []), some (.istore_n 1, 1, 0, []), some (.iconst 0, 0, 0, []), some (.istore_n 2, 2, 0, []), some (.iload_n 2, 2, 0, []), some (.aload_n 0, 0, 0, []), some (.getfield 43, 0, 10, [(1051, 0)]), none, none, some (.if_icmp .ge 24, 33, 0, []), none, none, some (.aload_n 0, 0, 0, []), some (.getfield 46, 0, 11, [(1053, 0)]), none, none, some (.iload_n 2, 2, 0, []), some (.iaload, 0, 0, []), some (.ifCond .ne 9, 27, 0, []), none, none, some (.iload_n 1, 1, 0, []), some (.iconst 1, 1, 0, []), some (.iload_n 2, 2, 0, []), some (.ishl, 0, 0, []), some (.ior, 0, 0, []), some (.istore_n 1, 1, 0, []), some (.iinc 2 1, 2, 1, []), none, none, some (.goto (-26), 4, 0, []), none, none, some (.iload_n 1, 1, 0, []), some (.ireturn, 0, 0, [])]
noncomputable def E_X1_peopleWithoutWords : ts_E := fun _ _ _ => none
noncomputable def F_X1_peopleWithoutWords : List ts_V → ts_S → Option ts_A := ts_Fn E_X1_peopleWithoutWords tb_X1_peopleWithoutWords 3
set_option maxRecDepth 20000 in
theorem ok_X1_peopleWithoutWords : ts_tbo 0 ts_mi [] (ts_mi 39).1.cls (ts_mi 39).2.2.2.1 (ts_mi 39).2.1 0 tb_X1_peopleWithoutWords = true := by decide +kernel
theorem con_X1_peopleWithoutWords {X : ts_X} {l : Launch} (hJ : ts_J X l) : ts_Met X l (ts_mi 39) 0 F_X1_peopleWithoutWords := ts_con (ts_mi 39) 0 (E := E_X1_peopleWithoutWords) (mi := ts_mi) (cs := []) (tb := tb_X1_peopleWithoutWords) (plainFor_of_name (by decide +kernel)) hJ.1 (fun _ h => absurd h List.not_mem_nil) ok_X1_peopleWithoutWords
def tb_X1_wearOfAll : List (Option ts_I) := [some (.iconst 0, 0, 0, []), some (.istore_n 1, 1, 0, []), some (.iconst 0, 0, 0, []), some (.istore_n 2, 2, 0, []), some (.iload_n 2, 2, 0, []), some (.aload_n 0, 0, 0, []), some (.getfield 25, 0, 4, [(1037, 0)]), none, none, some (.if_icmp .ge 18, 27, 0, []), none, none, some (.iload_n 1, 1, 0, []), some (.aload_n 0, 0, 0, []), some (.getfield 31, 0, 6, [(1042, 0)]), none, none, some (.iload_n 2, 2, 0, []), some (.iaload, 0, 0, []), some (.iadd, 0, 0, []), some (.istore_n 1, 1, 0, []), some (.iinc 2 1, 2, 1, []), none, none, some (.goto (-20), 4, 0, []), none, none, some (.iload_n 1, 1, 0, []), some (.ireturn, 0, 0, [])]
noncomputable def E_X1_wearOfAll : ts_E := fun _ _ _ => none
noncomputable def F_X1_wearOfAll : List ts_V → ts_S → Option ts_A := ts_Fn E_X1_wearOfAll tb_X1_wearOfAll 3
set_option maxRecDepth 20000 in
theorem ok_X1_wearOfAll : ts_tbo 0 ts_mi [] (ts_mi 40).1.cls (ts_mi 40).2.2.2.1 (ts_mi 40).2.1 0 tb_X1_wearOfAll = true := by decide +kernel
theorem con_X1_wearOfAll {X : ts_X} {l : Launch} (hJ : ts_J X l) : ts_Met X l (ts_mi 40) 0 F_X1_wearOfAll := ts_con (ts_mi 40) 0 (E := E_X1_wearOfAll) (mi := ts_mi) (cs := []) (tb := tb_X1_wearOfAll) (plainFor_of_name (by decide +kernel)) hJ.1 (fun _ h => absurd h List.not_mem_nil) ok_X1_wearOfAll
def tb_X1_keptInAll : List (Option ts_I) := [some (.iconst 0, 0, 0, []), some (.istore_n 1, 1, 0, []), some (.iconst 0, 0, 0, []), some (.istore_n 2, 2, 0, []), some (.iload_n 2, 2, 0, []), some (.aload_n 0, 0, 0, []), some (.getfield 25, 0, 4, [(1037, 0)]), none, none, some (.if_icmp .ge 18, 27, 0, []), none, none, some (.iload_n 1, 1, 0, []), some (.aload_n 0, 0, 0, []), some (.getfield 37, 0, 8, [(1047, 0)]), none, none, some (.iload_n 2, 2, 0, []), some (.iaload, 0, 0, []), some (.iadd, 0, 0, []), some (.istore_n 1, 1, 0, []), some (.iinc 2 1, 2, 1, []), none, none, some (.goto (-20), 4, 0, []), none, none, some (.iload_n 1, 1, 0, []), some (.ireturn, 0, 0, [])]
noncomputable def E_X1_keptInAll : ts_E := fun _ _ _ => none
noncomputable def F_X1_keptInAll : List ts_V → ts_S → Option ts_A := ts_Fn E_X1_keptInAll tb_X1_keptInAll 3
set_option maxRecDepth 20000 in
theorem ok_X1_keptInAll : ts_tbo 0 ts_mi [] (ts_mi 41).1.cls (ts_mi 41).2.2.2.1 (ts_mi 41).2.1 0 tb_X1_keptInAll = true := by decide +kernel
theorem con_X1_keptInAll {X : ts_X} {l : Launch} (hJ : ts_J X l) : ts_Met X l (ts_mi 41) 0 F_X1_keptInAll := ts_con (ts_mi 41) 0 (E := E_X1_keptInAll) (mi := ts_mi) (cs := []) (tb := tb_X1_keptInAll) (plainFor_of_name (by decide +kernel)) hJ.1 (fun _ h => absurd h List.not_mem_nil) ok_X1_keptInAll
def tb_X1_spotsInUse : List (Option ts_I) := [some (.iconst 0, 0, 0, []), some (.istore_n 1, 1, 0, []), some (.iconst 0, 0, 0, []), some (.istore_n 2, 2, 0, []), some (.iload_n 2, 2, 0, []), some (.bipush 10, 10, 0, []), none, some (.if_icmp .ge 22, 29, 0, []), none, none, some (.aload_n 0, 0, 0, []), some (.getfield 55, 0, 14, [(1061, 0)]), none, none, some (.iload_n 2, 2, 0, []), some (.iaload, 0, 0, []), some (.iconst (-1), 4294967295, 0, []), some (.if_icmp .eq 6, 23, 0, []), none, none, some (.iinc 1 1, 1, 1, []), none, none, some (.iinc 2 1, 2, 1, []), none, none, some (.goto (-22), 4, 0, []), none, none, some (.iload_n 1, 1, 0, []), some (.ireturn, 0, 0, [])]
noncomputable def E_X1_spotsInUse : ts_E := fun _ _ _ => none
noncomputable def F_X1_spotsInUse : List ts_V → ts_S → Option ts_A := ts_Fn E_X1_spotsInUse tb_X1_spotsInUse 3
set_option maxRecDepth 20000 in
theorem ok_X1_spotsInUse : ts_tbo 0 ts_mi [] (ts_mi 42).1.cls (ts_mi 42).2.2.2.1 (ts_mi 42).2.1 0 tb_X1_spotsInUse = true := by decide +kernel
theorem con_X1_spotsInUse {X : ts_X} {l : Launch} (hJ : ts_J X l) : ts_Met X l (ts_mi 42) 0 F_X1_spotsInUse := ts_con (ts_mi 42) 0 (E := E_X1_spotsInUse) (mi := ts_mi) (cs := []) (tb := tb_X1_spotsInUse) (plainFor_of_name (by decide +kernel)) hJ.1 (fun _ h => absurd h List.not_mem_nil) ok_X1_spotsInUse
def tb_X2_isMissing : List (Option ts_I) := [some (.aload_n 0, 0, 0, []), some (.getfield 9, 1, 0, [(1127, 0)]), none, none, some (.iload_n 1, 1, 0, []), some (.iaload, 0, 0, []), some (.ifCond .ne 7, 13, 0, []), none, none, some (.iconst 1, 1, 0, []), some (.goto 4, 14, 0, []), none, none, some (.iconst 0, 0, 0, []), some (.ireturn, 1, 0, [])]
noncomputable def E_X2_isMissing : ts_E := fun _ _ _ => none
noncomputable def F_X2_isMissing : List ts_V → ts_S → Option ts_A := ts_Fn E_X2_isMissing tb_X2_isMissing 2
set_option maxRecDepth 20000 in
theorem ok_X2_isMissing : ts_tbo 0 ts_mi [] (ts_mi 43).1.cls (ts_mi 43).2.2.2.1 (ts_mi 43).2.1 0 tb_X2_isMissing = true := by decide +kernel
theorem con_X2_isMissing {X : ts_X} {l : Launch} (hJ : ts_J X l) : ts_Met X l (ts_mi 43) 0 F_X2_isMissing := ts_con (ts_mi 43) 0 (E := E_X2_isMissing) (mi := ts_mi) (cs := []) (tb := tb_X2_isMissing) (plainFor_of_name (by decide +kernel)) hJ.1 (fun _ h => absurd h List.not_mem_nil) ok_X2_isMissing
def tb_X2_layOut : List (Option ts_I) := [some (.aload_n 0, 0, 0, []), some (.getfield 9, 1, 0, [(1127, 0)]), none, none, some (.iload_n 1, 1, 0, []), some (.iload_n 2, 2, 0, []), some (.iastore, 0, 0, []), some (.aload_n 0, 0, 0, []), some (.getfield 15, 1, 1, [(1129, 0)]), none, none, some (.iload_n 1, 1, 0, []), some (.iload_n 3, 3, 0, []), some (.iastore, 0, 0, []), some (.iconst 0, 0, 0, []), some (.istore 4, 4, 0, []), none, some (.iload 4, 4, 0, []), none, some (.iload_n 3, 3, 0, []), some (.if_icmp .ge 22, 42, 0, []), none, none, some (.aload_n 0, 0, 0, []), some (.getfield 18, 1, 2, [(1131, 0)]), none, none, some (.iload_n 1, 1, 0, []), some (.bipush 40, 40, 0, []), none, some (.imul, 0, 0, []), some (.iload 4, 4, 0, []), none, some (.iadd, 0, 0, []), some (.iconst 0, 0, 0, []), some (.iastore, 0, 0, []), some (.iinc 4 1, 4, 1, []), none, none, some (.goto (-22), 17, 0, []), none, none, some (.return_, 0, 0, [])]
noncomputable def E_X2_layOut : ts_E := fun _ _ _ => none
noncomputable def F_X2_layOut : List ts_V → ts_S → Option ts_A := ts_Fn E_X2_layOut tb_X2_layOut 5
set_option maxRecDepth 20000 in
theorem ok_X2_layOut : ts_tbo 0 ts_mi [] (ts_mi 44).1.cls (ts_mi 44).2.2.2.1 (ts_mi 44).2.1 0 tb_X2_layOut = true := by decide +kernel
theorem con_X2_layOut {X : ts_X} {l : Launch} (hJ : ts_J X l) : ts_Met X l (ts_mi 44) 0 F_X2_layOut := ts_con (ts_mi 44) 0 (E := E_X2_layOut) (mi := ts_mi) (cs := []) (tb := tb_X2_layOut) (plainFor_of_name (by decide +kernel)) hJ.1 (fun _ h => absurd h List.not_mem_nil) ok_X2_layOut
def tb_X2_numberAt : List (Option ts_I) := [some (.aload_n 0, 0, 0, []), some (.getfield 18, 1, 2, [(1131, 0)]), none, none, some (.iload_n 1, 1, 0, []), some (.bipush 40, 40, 0, []), none, some (.imul, 0, 0, []), some (.iload_n 2, 2, 0, []), some (.iadd, 0, 0, []), some (.iaload, 0, 0, []), some (.ireturn, 0, 0, [])]
noncomputable def E_X2_numberAt : ts_E := fun _ _ _ => none
noncomputable def F_X2_numberAt : List ts_V → ts_S → Option ts_A := ts_Fn E_X2_numberAt tb_X2_numberAt 3
set_option maxRecDepth 20000 in
theorem ok_X2_numberAt : ts_tbo 0 ts_mi [] (ts_mi 45).1.cls (ts_mi 45).2.2.2.1 (ts_mi 45).2.1 0 tb_X2_numberAt = true := by decide +kernel
theorem con_X2_numberAt {X : ts_X} {l : Launch} (hJ : ts_J X l) : ts_Met X l (ts_mi 45) 0 F_X2_numberAt := ts_con (ts_mi 45) 0 (E := E_X2_numberAt) (mi := ts_mi) (cs := []) (tb := tb_X2_numberAt) (plainFor_of_name (by decide +kernel)) hJ.1 (fun _ h => absurd h List.not_mem_nil) ok_X2_numberAt
def tb_X2_lowestBits : List (Option ts_I) := [some (.iload_n 0, 0, 0, []), some (.lookupswitch 33 #[(8, 27), (16, 30)], 34, 27, [(8, 28), (16, 31)]), none, none, none, none, none, none, none, none, none, none, none, none, none, none, none, none, none, none, none, none, none, none, none, none, none, none, some (.iload_n 1, 1, 0, []), some (.i2b, 0, 0, []), some (.ireturn, 0, 0, []), some (.iload_n 1, 1, 0, []), some (.i2s, 0, 0, []), some (.ireturn, 0, 0, []), some (.iload_n 1, 1, 0, []), some (.ireturn, 0, 0, [])]
noncomputable def E_X2_lowestBits : ts_E := fun _ _ _ => none
noncomputable def F_X2_lowestBits : List ts_V → ts_S → Option ts_A := ts_Fn E_X2_lowestBits tb_X2_lowestBits 2
set_option maxRecDepth 20000 in
theorem ok_X2_lowestBits : ts_tbo 0 ts_mi [] (ts_mi 46).1.cls (ts_mi 46).2.2.2.1 (ts_mi 46).2.1 0 tb_X2_lowestBits = true := by decide +kernel
theorem con_X2_lowestBits {X : ts_X} {l : Launch} (hJ : ts_J X l) : ts_Met X l (ts_mi 46) 0 F_X2_lowestBits := ts_con (ts_mi 46) 0 (E := E_X2_lowestBits) (mi := ts_mi) (cs := []) (tb := tb_X2_lowestBits) (plainFor_of_name (by decide +kernel)) hJ.1 (fun _ h => absurd h List.not_mem_nil) ok_X2_lowestBits
def tb_X2_put : List (Option ts_I) := [some (.aload_n 0, 0, 0, []), some (.getfield 18, 1, 2, [(1131, 0)]), none, none, some (.iload_n 1, 1, 0, []), some (.bipush 40, 40, 0, []), none, some (.imul, 0, 0, []), some (.iload_n 2, 2, 0, []), some (.iadd, 0, 0, []), some (.aload_n 0, 0, 0, []), some (.getfield 9, 1, 0, [(1127, 0)]), none, none, some (.iload_n 1, 1, 0, []), some (.iaload, 0, 0, []), some (.iload_n 3, 3, 0, []), some (.invokestatic 21, 46, 2, [(3159, 9), (0, 0)]), none, none, some (.iastore, 0, 0, []), some (.return_, 0, 0, [])]
noncomputable def E_X2_put : ts_E := fun z => if z = 46 then F_X2_lowestBits else fun _ _ => none
noncomputable def F_X2_put : List ts_V → ts_S → Option ts_A := ts_Fn E_X2_put tb_X2_put 4
set_option maxRecDepth 20000 in
theorem ok_X2_put : ts_tbo 1 ts_mi [46] (ts_mi 47).1.cls (ts_mi 47).2.2.2.1 (ts_mi 47).2.1 0 tb_X2_put = true := by decide +kernel
theorem con_X2_put {X : ts_X} {l : Launch} (hJ : ts_J X l) : ts_Met X l (ts_mi 47) 1 F_X2_put := ts_con (ts_mi 47) 1 (E := E_X2_put) (mi := ts_mi) (cs := [46]) (tb := tb_X2_put) (plainFor_of_name (by decide +kernel)) hJ.1 (List.forall_mem_cons.mpr ⟨⟨mw_46, 0, by decide, con_X2_lowestBits hJ⟩, fun _ h => absurd h List.not_mem_nil⟩) ok_X2_put
def tb_X2_hasRange : List (Option ts_I) := [some (.iload_n 2, 2, 0, []), some (.ifCond .lt 33, 34, 0, []), none, none, some (.iload_n 3, 3, 0, []), some (.ifCond .lt 29, 34, 0, []), none, none, some (.iload_n 3, 3, 0, []), some (.aload_n 0, 0, 0, []), some (.getfield 15, 1, 1, [(1129, 0)]), none, none, some (.iload_n 1, 1, 0, []), some (.iaload, 0, 0, []), some (.if_icmp .gt 19, 34, 0, []), none, none, some (.iload_n 2, 2, 0, []), some (.aload_n 0, 0, 0, []), some (.getfield 15, 1, 1, [(1129, 0)]), none, none, some (.iload_n 1, 1, 0, []), some (.iaload, 0, 0, []), some (.iload_n 3, 3, 0, []), some (.isub, 0, 0, []), some (.if_icmp .gt 7, 34, 0, []), none, none, some (.iconst 1, 1, 0, []), some (.goto 4, 35, 0, []), none, none, some (.iconst 0, 0, 0, []), some (.ireturn, 1, 0, [])]
noncomputable def E_X2_hasRange : ts_E := fun _ _ _ => none
noncomputable def F_X2_hasRange : List ts_V → ts_S → Option ts_A := ts_Fn E_X2_hasRange tb_X2_hasRange 4
set_option maxRecDepth 20000 in
theorem ok_X2_hasRange : ts_tbo 0 ts_mi [] (ts_mi 48).1.cls (ts_mi 48).2.2.2.1 (ts_mi 48).2.1 0 tb_X2_hasRange = true := by decide +kernel
theorem con_X2_hasRange {X : ts_X} {l : Launch} (hJ : ts_J X l) : ts_Met X l (ts_mi 48) 0 F_X2_hasRange := ts_con (ts_mi 48) 0 (E := E_X2_hasRange) (mi := ts_mi) (cs := []) (tb := tb_X2_hasRange) (plainFor_of_name (by decide +kernel)) hJ.1 (fun _ h => absurd h List.not_mem_nil) ok_X2_hasRange
def tb_X2_move : List (Option ts_I) := [some (.aload_n 0, 0, 0, []), some (.getfield 18, 1, 2, [(1131, 0)]), none, none, some (.iload_n 1, 1, 0, []), some (.bipush 40, 40, 0, []), none, some (.imul, 0, 0, []), some (.iload_n 2, 2, 0, []), some (.iadd, 0, 0, []), some (.aload_n 0, 0, 0, []), some (.getfield 18, 1, 2, [(1131, 0)]), none, none, some (.iload_n 3, 3, 0, []), some (.bipush 40, 40, 0, []), none, some (.imul, 0, 0, []), some (.iload 4, 4, 0, []), none, some (.iadd, 0, 0, []), some (.iload 5, 5, 0, []), none, some (.invokestatic 25, 0, 5, [(3174, 7), (1, 0)]), none, none, some (.return_, 0, 0, [])]
noncomputable def E_X2_move : ts_E := fun _ _ _ => none
noncomputable def F_X2_move : List ts_V → ts_S → Option ts_A := ts_Fn E_X2_move tb_X2_move 6
set_option maxRecDepth 20000 in
theorem ok_X2_move : ts_tbo 1 ts_mi [] (ts_mi 49).1.cls (ts_mi 49).2.2.2.1 (ts_mi 49).2.1 0 tb_X2_move = true := by decide +kernel
theorem con_X2_move {X : ts_X} {l : Launch} (hJ : ts_J X l) : ts_Met X l (ts_mi 49) 1 F_X2_move := ts_con (ts_mi 49) 1 (E := E_X2_move) (mi := ts_mi) (cs := []) (tb := tb_X2_move) (plainFor_of_name (by decide +kernel)) hJ.1 (fun _ h => absurd h List.not_mem_nil) ok_X2_move
def tb_X2_admits : List (Option ts_I) := [some (.aload_n 0, 0, 0, []), some (.iload_n 1, 1, 0, []), some (.iload_n 2, 2, 0, []), some (.invokevirtual 31, 45, 3, [(2203, 1), (0, 0)]), none, none, some (.istore 4, 4, 0, []), none, some (.iload 4, 4, 0, []), none, some (.iconst (-1), 4294967295, 0, []), some (.if_icmp .eq 9, 20, 0, []), none, none, some (.iload 4, 4, 0, []), none, some (.iload_n 3, 3, 0, []), some (.if_icmp .ne 7, 24, 0, []), none, none, some (.iconst 1, 1, 0, []), some (.goto 4, 25, 0, []), none, none, some (.iconst 0, 0, 0, []), some (.ireturn, 1, 0, [])]
noncomputable def E_X2_admits : ts_E := fun z => if z = 45 then F_X2_numberAt else fun _ _ => none
noncomputable def F_X2_admits : List ts_V → ts_S → Option ts_A := ts_Fn E_X2_admits tb_X2_admits 5
set_option maxRecDepth 20000 in
theorem ok_X2_admits : ts_tbo 1 ts_mi [45] (ts_mi 50).1.cls (ts_mi 50).2.2.2.1 (ts_mi 50).2.1 0 tb_X2_admits = true := by decide +kernel
theorem con_X2_admits {X : ts_X} {l : Launch} (hJ : ts_J X l) : ts_Met X l (ts_mi 50) 1 F_X2_admits := ts_con (ts_mi 50) 1 (E := E_X2_admits) (mi := ts_mi) (cs := [45]) (tb := tb_X2_admits) (plainFor_of_name (by decide +kernel)) hJ.1 (List.forall_mem_cons.mpr ⟨⟨mw_45, 0, by decide, con_X2_numberAt hJ⟩, fun _ h => absurd h List.not_mem_nil⟩) ok_X2_admits
def tb_X3_append : List (Option ts_I) := [some (.iload_n 2, 2, 0, []), some (.ifCond .lt 14, 15, 0, []), none, none, some (.iload_n 2, 2, 0, []), some (.bipush 120, 120, 0, []), none, some (.aload_n 0, 0, 0, []), some (.getfield 15, 2, 1, [(1102, 0)]), none, none, some (.isub, 0, 0, []), some (.if_icmp .le 5, 17, 0, []), none, none, some (.iconst 0, 0, 0, []), some (.ireturn, 1, 0, []), some (.iload_n 2, 2, 0, []), some (.iconst 1, 1, 0, []), some (.isub, 0, 0, []), some (.istore_n 3, 3, 0, []), some (.iload_n 3, 3, 0, []), some (.ifCond .lt 38, 60, 0, []), none, none, some (.aload_n 0, 0, 0, []), some (.getfield 9, 2, 0, [(1101, 0)]), none, none, some (.aload_n 0, 0, 0, []), some (.getfield 15, 2, 1, [(1102, 0)]), none, none, some (.iload_n 1, 1, 0, []), some (.bipush 8, 8, 0, []), none, some (.iload_n 3, 3, 0, []), some (.imul, 0, 0, []), some (.iushr, 0, 0, []), some (.sipush 255, 255, 0, []), none, none, some (.iand, 0, 0, []), some (.iastore, 0, 0, []), some (.aload_n 0, 0, 0, []), some (.dup, 0, 0, []), some (.getfield 15, 2, 1, [(1102, 0)]), none, none, some (.iconst 1, 1, 0, []), some (.iadd, 0, 0, []), some (.putfield 15, 2, 1, [(1102, 0)]), none, none, some (.iinc 3 (-1), 3, 4294967295, []), none, none, some (.goto (-36), 21, 0, []), none, none, some (.iconst 1, 1, 0, []), some (.ireturn, 1, 0, [])]
noncomputable def E_X3_append : ts_E := fun _ _ _ => none
noncomputable def F_X3_append : List ts_V → ts_S → Option ts_A := ts_Fn E_X3_append tb_X3_append 4
set_option maxRecDepth 20000 in
theorem ok_X3_append : ts_tbo 0 ts_mi [] (ts_mi 51).1.cls (ts_mi 51).2.2.2.1 (ts_mi 51).2.1 0 tb_X3_append = true := by decide +kernel
theorem con_X3_append {X : ts_X} {l : Launch} (hJ : ts_J X l) : ts_Met X l (ts_mi 51) 0 F_X3_append := ts_con (ts_mi 51) 0 (E := E_X3_append) (mi := ts_mi) (cs := []) (tb := tb_X3_append) (plainFor_of_name (by decide +kernel)) hJ.1 (fun _ h => absurd h List.not_mem_nil) ok_X3_append
def tb_X3_isLetter : List (Option ts_I) := [some (.iload_n 0, 0, 0, []), some (.bipush 97, 97, 0, []), none, some (.if_icmp .lt 13, 16, 0, []), none, none, some (.iload_n 0, 0, 0, []), some (.bipush 122, 122, 0, []), none, some (.if_icmp .gt 7, 16, 0, []), none, none, some (.iconst 1, 1, 0, []), some (.goto 4, 17, 0, []), none, none, some (.iconst 0, 0, 0, []), some (.ireturn, 1, 0, [])]
noncomputable def E_X3_isLetter : ts_E := fun _ _ _ => none
noncomputable def F_X3_isLetter : List ts_V → ts_S → Option ts_A := ts_Fn E_X3_isLetter tb_X3_isLetter 1
set_option maxRecDepth 20000 in
theorem ok_X3_isLetter : ts_tbo 0 ts_mi [] (ts_mi 52).1.cls (ts_mi 52).2.2.2.1 (ts_mi 52).2.1 0 tb_X3_isLetter = true := by decide +kernel
theorem con_X3_isLetter {X : ts_X} {l : Launch} (hJ : ts_J X l) : ts_Met X l (ts_mi 52) 0 F_X3_isLetter := ts_con (ts_mi 52) 0 (E := E_X3_isLetter) (mi := ts_mi) (cs := []) (tb := tb_X3_isLetter) (plainFor_of_name (by decide +kernel)) hJ.1 (fun _ h => absurd h List.not_mem_nil) ok_X3_isLetter
def tb_X3_isDigit : List (Option ts_I) := [some (.iload_n 0, 0, 0, []), some (.bipush 48, 48, 0, []), none, some (.if_icmp .lt 13, 16, 0, []), none, none, some (.iload_n 0, 0, 0, []), some (.bipush 57, 57, 0, []), none, some (.if_icmp .gt 7, 16, 0, []), none, none, some (.iconst 1, 1, 0, []), some (.goto 4, 17, 0, []), none, none, some (.iconst 0, 0, 0, []), some (.ireturn, 1, 0, [])]
noncomputable def E_X3_isDigit : ts_E := fun _ _ _ => none
noncomputable def F_X3_isDigit : List ts_V → ts_S → Option ts_A := ts_Fn E_X3_isDigit tb_X3_isDigit 1
set_option maxRecDepth 20000 in
theorem ok_X3_isDigit : ts_tbo 0 ts_mi [] (ts_mi 53).1.cls (ts_mi 53).2.2.2.1 (ts_mi 53).2.1 0 tb_X3_isDigit = true := by decide +kernel
theorem con_X3_isDigit {X : ts_X} {l : Launch} (hJ : ts_J X l) : ts_Met X l (ts_mi 53) 0 F_X3_isDigit := ts_con (ts_mi 53) 0 (E := E_X3_isDigit) (mi := ts_mi) (cs := []) (tb := tb_X3_isDigit) (plainFor_of_name (by decide +kernel)) hJ.1 (fun _ h => absurd h List.not_mem_nil) ok_X3_isDigit
def tb_X3_readToken : List (Option ts_I) := [some (.aload_n 0, 0, 0, []), some (.aload_n 0, 0, 0, []), some (.getfield 25, 2, 4, [(1106, 0)]), none, none, some (.putfield 22, 2, 3, [(1105, 0)]), none, none, some (.aload_n 0, 0, 0, []), some (.getfield 22, 2, 3, [(1105, 0)]), none, none, some (.aload_n 0, 0, 0, []), some (.getfield 15, 2, 1, [(1102, 0)]), none, none, some (.if_icmp .ge 30, 46, 0, []), none, none, some (.aload_n 0, 0, 0, []), some (.getfield 9, 2, 0, [(1101, 0)]), none, none, some (.aload_n 0, 0, 0, []), some (.getfield 22, 2, 3, [(1105, 0)]), none, none, some (.iaload, 0, 0, []), some (.bipush 32, 32, 0, []), none, some (.if_icmp .ne 16, 46, 0, []), none, none, some (.aload_n 0, 0, 0, []), some (.dup, 0, 0, []), some (.getfield 22, 2, 3, [(1105, 0)]), none, none, some (.iconst 1, 1, 0, []), some (.iadd, 0, 0, []), some (.putfield 22, 2, 3, [(1105, 0)]), none, none, some (.goto (-35), 8, 0, []), none, none, some (.aload_n 0, 0, 0, []), some (.aload_n 0, 0, 0, []), some (.getfield 22, 2, 3, [(1105, 0)]), none, none, some (.putfield 25, 2, 4, [(1106, 0)]), none, none, some (.aload_n 0, 0, 0, []), some (.getfield 22, 2, 3, [(1105, 0)]), none, none, some (.aload_n 0, 0, 0, []), some (.getfield 15, 2, 1, [(1102, 0)]), none, none, some (.if_icmp .lt 11, 73, 0, []), none, none, some (.aload_n 0, 0, 0, []), some (.iconst 0, 0, 0, []), some (.putfield 19, 2, 2, [(1104, 0)]), none, none, some (.goto 189, 259, 0, []), none, none, some (.aload_n 0, 0, 0, []), some (.getfield 9, 2, 0, [(1101, 0)]), none, none, some (.aload_n 0, 0, 0, []), some (.getfield 22, 2, 3, [(1105, 0)]), none, none, some (.iaload, 0, 0, []), some (.invokestatic 116, 52, 1, [(3022, 9), (0, 0)]), none, none, some (.ifCond .eq 47, 132, 0, []), none, none, some (.aload_n 0, 0, 0, []), some (.iconst 1, 1, 0, []), some (.putfield 19, 2, 2, [(1104, 0)]), none, none, some (.aload_n 0, 0, 0, []), some (.getfield 25, 2, 4, [(1106, 0)]), none, none, some (.aload_n 0, 0, 0, []), some (.getfield 15, 2, 1, [(1102, 0)]), none, none, some (.if_icmp .ge 158, 259, 0, []), none, none, some (.aload_n 0, 0, 0, []), some (.getfield 9, 2, 0, [(1101, 0)]), none, none, some (.aload_n 0, 0, 0, []), some (.getfield 25, 2, 4, [(1106, 0)]), none, none, some (.iaload, 0, 0, []), some (.invokestatic 116, 52, 1, [(3022, 9), (0, 0)]), none, none, some (.ifCond .eq 143, 259, 0, []), none, none, some (.aload_n 0, 0, 0, []), some (.dup, 0, 0, []), some (.getfield 25, 2, 4, [(1106, 0)]), none, none, some (.iconst 1, 1, 0, []), some (.iadd, 0, 0, []), some (.putfield 25, 2, 4, [(1106, 0)]), none, none, some (.goto (-36), 93, 0, []), none, none, some (.aload_n 0, 0, 0, []), some (.getfield 9, 2, 0, [(1101, 0)]), none, none, some (.aload_n 0, 0, 0, []), some (.getfield 22, 2, 3, [(1105, 0)]), none, none, some (.iaload, 0, 0, []), some (.invokestatic 119, 53, 1, [(3025, 9), (0, 0)]), none, none, some (.ifCond .eq 82, 226, 0, []), none, none, some (.aload_n 0, 0, 0, []), some (.iconst 2, 2, 0, []), some (.putfield 19, 2, 2, [(1104, 0)]), none, none, some (.aload_n 0, 0, 0, []), some (.iconst 0, 0, 0, []), some (.putfield 28, 2, 5, [(1107, 0)]), none, none, some (.aload_n 0, 0, 0, []), some (.getfield 25, 2, 4, [(1106, 0)]), none, none, some (.aload_n 0, 0, 0, []), some (.getfield 15, 2, 1, [(1102, 0)]), none, none, some (.if_icmp .ge 94, 259, 0, []), none, none, some (.aload_n 0, 0, 0, []), some (.getfield 9, 2, 0, [(1101, 0)]), none, none, some (.aload_n 0, 0, 0, []), some (.getfield 25, 2, 4, [(1106, 0)]), none, none, some (.iaload, 0, 0, []), some (.invokestatic 119, 53, 1, [(3025, 9), (0, 0)]), none, none, some (.ifCond .eq 79, 259, 0, []), none, none, some (.aload_n 0, 0, 0, []), some (.bipush 10, 10, 0, []), none, some (.aload_n 0, 0, 0, []), some (.getfield 28, 2, 5, [(1107, 0)]), none, none, some (.imul, 0, 0, []), some (.aload_n 0, 0, 0, []), some (.getfield 9, 2, 0, [(1101, 0)]), none, none, some (.aload_n 0, 0, 0, []), some (.getfield 25, 2, 4, [(1106, 0)]), none, none, some (.iaload, 0, 0, []), some (.iadd, 0, 0, []), some (.bipush 48, 48, 0, []), none, some (.isub, 0, 0, []), some (.sipush 10000, 10000, 0, []), none, none, some (.invokestatic 122, 27, 2, [(3028, 9), (0, 0)]), none, none, some (.putfield 28, 2, 5, [(1107, 0)]), none, none, some (.aload_n 0, 0, 0, []), some (.dup, 0, 0, []), some (.getfield 25, 2, 4, [(1106, 0)]), none, none, some (.iconst 1, 1, 0, []), some (.iadd, 0, 0, []), some (.putfield 25, 2, 4, [(1106, 0)]), none, none, some (.goto (-66), 157, 0, []), none, none, some (.aload_n 0, 0, 0, []), some (.aload_n 0, 0, 0, []), some (.getfield 9, 2, 0, [(1101, 0)]), none, none, some (.aload_n 0, 0, 0, []), some (.getfield 22, 2, 3, [(1105, 0)]), none, none, some (.iaload, 0, 0, []), some (.bipush 59, 59, 0, []), none, some (.if_icmp .ne 7, 245, 0, []), none, none, some (.iconst 3, 3, 0, []), some (.goto 4, 246, 0, []), none, none, some (.iconst 4, 4, 0, []), some (.putfield 19, 2, 2, [(1104, 0)]), none, none, some (.aload_n 0, 0, 0, []), some (.dup, 0, 0, []), some (.getfield 25, 2, 4, [(1106, 0)]), none, none, some (.iconst 1, 1, 0, []), some (.iadd, 0, 0, []), some (.putfield 25, 2, 4, [(1106, 0)]), none, none, some (.return_, 0, 0, [])]
noncomputable def E_X3_readToken : ts_E := fun z => if z = 52 then F_X3_isLetter else if z = 53 then F_X3_isDigit else if z = 27 then F_J9_min_7cf53 else fun _ _ => none
noncomputable def F_X3_readToken : List ts_V → ts_S → Option ts_A := ts_Fn E_X3_readToken tb_X3_readToken 1
set_option maxRecDepth 20000 in
theorem ok_X3_readToken : ts_tbo 1 ts_mi [52, 53, 27] (ts_mi 54).1.cls (ts_mi 54).2.2.2.1 (ts_mi 54).2.1 0 tb_X3_readToken = true := by decide +kernel
theorem con_X3_readToken {X : ts_X} {l : Launch} (hJ : ts_J X l) : ts_Met X l (ts_mi 54) 1 F_X3_readToken := ts_con (ts_mi 54) 1 (E := E_X3_readToken) (mi := ts_mi) (cs := [52, 53, 27]) (tb := tb_X3_readToken) (plainFor_of_name (by decide +kernel)) hJ.1 (List.forall_mem_cons.mpr ⟨⟨mw_52, 0, by decide, con_X3_isLetter hJ⟩, List.forall_mem_cons.mpr ⟨⟨mw_53, 0, by decide, con_X3_isDigit hJ⟩, List.forall_mem_cons.mpr ⟨⟨mw_27, 0, by decide, con_J9_min_7cf53 hJ⟩, fun _ h => absurd h List.not_mem_nil⟩⟩⟩) ok_X3_readToken
def tb_X3_isNumber : List (Option ts_I) := [some (.aload_n 0, 0, 0, []), some (.getfield 19, 2, 2, [(1104, 0)]), none, none, some (.iconst 2, 2, 0, []), some (.if_icmp .ne 15, 20, 0, []), none, none, some (.aload_n 0, 0, 0, []), some (.getfield 28, 2, 5, [(1107, 0)]), none, none, some (.iload_n 1, 1, 0, []), some (.if_icmp .gt 7, 20, 0, []), none, none, some (.iconst 1, 1, 0, []), some (.goto 4, 21, 0, []), none, none, some (.iconst 0, 0, 0, []), some (.ireturn, 1, 0, [])]
noncomputable def E_X3_isNumber : ts_E := fun _ _ _ => none
noncomputable def F_X3_isNumber : List ts_V → ts_S → Option ts_A := ts_Fn E_X3_isNumber tb_X3_isNumber 2
set_option maxRecDepth 20000 in
theorem ok_X3_isNumber : ts_tbo 0 ts_mi [] (ts_mi 55).1.cls (ts_mi 55).2.2.2.1 (ts_mi 55).2.1 0 tb_X3_isNumber = true := by decide +kernel
theorem con_X3_isNumber {X : ts_X} {l : Launch} (hJ : ts_J X l) : ts_Met X l (ts_mi 55) 0 F_X3_isNumber := ts_con (ts_mi 55) 0 (E := E_X3_isNumber) (mi := ts_mi) (cs := []) (tb := tb_X3_isNumber) (plainFor_of_name (by decide +kernel)) hJ.1 (fun _ h => absurd h List.not_mem_nil) ok_X3_isNumber
def tb_X3_readPerson : List (Option ts_I) := [some (.aload_n 1, 1, 0, []), some (.iconst 0, 0, 0, []), some (.invokevirtual 89, 18, 2, [(3090, 0), (0, 0)]), none, none, some (.istore_n 2, 2, 0, []), some (.iload_n 2, 2, 0, []), some (.iconst (-1), 4294967295, 0, []), some (.if_icmp .ne 5, 13, 0, []), none, none, some (.iconst 0, 0, 0, []), some (.ireturn, 1, 0, []), some (.aload_n 0, 0, 0, []), some (.invokevirtual 31, 54, 1, [(3018, 2), (1, 0)]), none, none, some (.aload_n 0, 0, 0, []), some (.ldc 92, 11, 1, [(11, 0)]), none, some (.invokevirtual 40, 5, 2, [(3034, 2), (0, 0)]), none, none, some (.ifCond .eq 33, 56, 0, []), none, none, some (.aload_n 0, 0, 0, []), some (.invokevirtual 31, 54, 1, [(3018, 2), (1, 0)]), none, none, some (.aload_n 0, 0, 0, []), some (.sipush 4095, 4095, 0, []), none, none, some (.invokevirtual 78, 55, 2, [(3092, 2), (0, 0)]), none, none, some (.ifCond .ne 5, 42, 0, []), none, none, some (.iconst 0, 0, 0, []), some (.ireturn, 1, 0, []), some (.aload_n 1, 1, 0, []), some (.getfield 94, 0, 11, [(1054, 0)]), none, none, some (.iload_n 2, 2, 0, []), some (.aload_n 0, 0, 0, []), some (.getfield 28, 2, 5, [(1107, 0)]), none, none, some (.iastore, 0, 0, []), some (.aload_n 0, 0, 0, []), some (.invokevirtual 31, 54, 1, [(3018, 2), (1, 0)]), none, none, some (.aload_n 0, 0, 0, []), some (.ldc 96, 12, 1, [(12, 0)]), none, some (.invokevirtual 40, 5, 2, [(3034, 2), (0, 0)]), none, none, some (.ifCond .eq 36, 98, 0, []), none, none, some (.aload_n 0, 0, 0, []), some (.invokevirtual 31, 54, 1, [(3018, 2), (1, 0)]), none, none, some (.aload_n 0, 0, 0, []), some (.aload_n 1, 1, 0, []), some (.getfield 98, 0, 4, [(1038, 0)]), none, none, some (.iconst 1, 1, 0, []), some (.isub, 0, 0, []), some (.invokevirtual 78, 55, 2, [(3092, 2), (0, 0)]), none, none, some (.ifCond .ne 5, 84, 0, []), none, none, some (.iconst 0, 0, 0, []), some (.ireturn, 1, 0, []), some (.aload_n 1, 1, 0, []), some (.getfield 101, 0, 12, [(1057, 0)]), none, none, some (.iload_n 2, 2, 0, []), some (.aload_n 0, 0, 0, []), some (.getfield 28, 2, 5, [(1107, 0)]), none, none, some (.iastore, 0, 0, []), some (.aload_n 0, 0, 0, []), some (.invokevirtual 31, 54, 1, [(3018, 2), (1, 0)]), none, none, some (.iconst 1, 1, 0, []), some (.ireturn, 1, 0, [])]
noncomputable def E_X3_readPerson : ts_E := fun z => if z = 18 then F_X1_addPerson else if z = 54 then F_X3_readToken else if z = 5 then F_X3_isWord else if z = 55 then F_X3_isNumber else fun _ _ => none
noncomputable def F_X3_readPerson : List ts_V → ts_S → Option ts_A := ts_Fn E_X3_readPerson tb_X3_readPerson 3
set_option maxRecDepth 20000 in
theorem ok_X3_readPerson : ts_tbo 5 ts_mi [18, 54, 5, 55] (ts_mi 56).1.cls (ts_mi 56).2.2.2.1 (ts_mi 56).2.1 0 tb_X3_readPerson = true := by decide +kernel
theorem con_X3_readPerson {X : ts_X} {l : Launch} (hJ : ts_J X l) : ts_Met X l (ts_mi 56) 5 F_X3_readPerson := ts_con (ts_mi 56) 5 (E := E_X3_readPerson) (mi := ts_mi) (cs := [18, 54, 5, 55]) (tb := tb_X3_readPerson) (plainFor_of_name (by decide +kernel)) hJ.1 (List.forall_mem_cons.mpr ⟨⟨mw_18, 0, by decide, con_X1_addPerson hJ⟩, List.forall_mem_cons.mpr ⟨⟨mw_54, 1, by decide, con_X3_readToken hJ⟩, List.forall_mem_cons.mpr ⟨⟨mw_5, 4, by decide, con_X3_isWord hJ⟩, List.forall_mem_cons.mpr ⟨⟨mw_55, 0, by decide, con_X3_isNumber hJ⟩, fun _ h => absurd h List.not_mem_nil⟩⟩⟩⟩) ok_X3_readPerson
def tb_X3_readCrossing : List (Option ts_I) := [some (.aload_n 0, 0, 0, []), some (.invokevirtual 31, 54, 1, [(3018, 2), (1, 0)]), none, none, some (.aload_n 0, 0, 0, []), some (.iconst 5, 5, 0, []), some (.invokevirtual 78, 55, 2, [(3092, 2), (0, 0)]), none, none, some (.ifCond .ne 5, 14, 0, []), none, none, some (.iconst 0, 0, 0, []), some (.ireturn, 1, 0, []), some (.aload_n 0, 0, 0, []), some (.getfield 28, 2, 5, [(1107, 0)]), none, none, some (.istore_n 2, 2, 0, []), some (.aload_n 0, 0, 0, []), some (.invokevirtual 31, 54, 1, [(3018, 2), (1, 0)]), none, none, some (.aload_n 0, 0, 0, []), some (.iconst 5, 5, 0, []), some (.invokevirtual 78, 55, 2, [(3092, 2), (0, 0)]), none, none, some (.ifCond .ne 5, 33, 0, []), none, none, some (.iconst 0, 0, 0, []), some (.ireturn, 1, 0, []), some (.aload_n 0, 0, 0, []), some (.getfield 28, 2, 5, [(1107, 0)]), none, none, some (.istore_n 3, 3, 0, []), some (.aload_n 0, 0, 0, []), some (.invokevirtual 31, 54, 1, [(3018, 2), (1, 0)]), none, none, some (.aload_n 0, 0, 0, []), some (.bipush 7, 7, 0, []), none, some (.invokevirtual 78, 55, 2, [(3092, 2), (0, 0)]), none, none, some (.ifCond .ne 5, 53, 0, []), none, none, some (.iconst 0, 0, 0, []), some (.ireturn, 1, 0, []), some (.aload_n 1, 1, 0, []), some (.getfield 103, 0, 0, [(1030, 0)]), none, none, some (.iload_n 2, 2, 0, []), some (.bipush 10, 10, 0, []), none, some (.iload_n 3, 3, 0, []), some (.imul, 0, 0, []), some (.aload_n 0, 0, 0, []), some (.getfield 28, 2, 5, [(1107, 0)]), none, none, some (.iadd, 0, 0, []), some (.iastore, 0, 0, []), some (.aload_n 0, 0, 0, []), some (.invokevirtual 31, 54, 1, [(3018, 2), (1, 0)]), none, none, some (.iconst 1, 1, 0, []), some (.ireturn, 1, 0, [])]
noncomputable def E_X3_readCrossing : ts_E := fun z => if z = 54 then F_X3_readToken else if z = 55 then F_X3_isNumber else fun _ _ => none
noncomputable def F_X3_readCrossing : List ts_V → ts_S → Option ts_A := ts_Fn E_X3_readCrossing tb_X3_readCrossing 4
set_option maxRecDepth 20000 in
theorem ok_X3_readCrossing : ts_tbo 2 ts_mi [54, 55] (ts_mi 57).1.cls (ts_mi 57).2.2.2.1 (ts_mi 57).2.1 0 tb_X3_readCrossing = true := by decide +kernel
theorem con_X3_readCrossing {X : ts_X} {l : Launch} (hJ : ts_J X l) : ts_Met X l (ts_mi 57) 2 F_X3_readCrossing := ts_con (ts_mi 57) 2 (E := E_X3_readCrossing) (mi := ts_mi) (cs := [54, 55]) (tb := tb_X3_readCrossing) (plainFor_of_name (by decide +kernel)) hJ.1 (List.forall_mem_cons.mpr ⟨⟨mw_54, 1, by decide, con_X3_readToken hJ⟩, List.forall_mem_cons.mpr ⟨⟨mw_55, 0, by decide, con_X3_isNumber hJ⟩, fun _ h => absurd h List.not_mem_nil⟩⟩) ok_X3_readCrossing
end
section
/-! tables, part 2 -/
def tb_X3_readKept : List (Option ts_I) := [some (.iconst 0, 0, 0, []), some (.istore_n 3, 3, 0, []), some (.iload_n 3, 3, 0, []), some (.iconst 5, 5, 0, []), some (.if_icmp .ge 32, 36, 0, []), none, none, some (.aload_n 0, 0, 0, []), some (.bipush 11, 11, 0, []), none, some (.invokevirtual 78, 55, 2, [(3092, 2), (0, 0)]), none, none, some (.ifCond .eq 23, 36, 0, []), none, none, some (.aload_n 1, 1, 0, []), some (.iload_n 2, 2, 0, []), some (.aload_n 0, 0, 0, []), some (.getfield 28, 2, 5, [(1107, 0)]), none, none, some (.invokevirtual 82, 21, 3, [(3126, 0), (0, 0)]), none, none, some (.pop, 0, 0, []), some (.aload_n 0, 0, 0, []), some (.invokevirtual 31, 54, 1, [(3018, 2), (1, 0)]), none, none, some (.iinc 3 1, 3, 1, []), none, none, some (.goto (-31), 2, 0, []), none, none, some (.aload_n 1, 1, 0, []), some (.getfield 86, 0, 8, [(1048, 0)]), none, none, some (.iload_n 2, 2, 0, []), some (.iaload, 0, 0, []), some (.ifCond .le 7, 49, 0, []), none, none, some (.iconst 1, 1, 0, []), some (.goto 4, 50, 0, []), none, none, some (.iconst 0, 0, 0, []), some (.ireturn, 1, 0, [])]
noncomputable def E_X3_readKept : ts_E := fun z => if z = 55 then F_X3_isNumber else if z = 21 then F_X1_keep else if z = 54 then F_X3_readToken else fun _ _ => none
noncomputable def F_X3_readKept : List ts_V → ts_S → Option ts_A := ts_Fn E_X3_readKept tb_X3_readKept 4
set_option maxRecDepth 20000 in
theorem ok_X3_readKept : ts_tbo 2 ts_mi [55, 21, 54] (ts_mi 58).1.cls (ts_mi 58).2.2.2.1 (ts_mi 58).2.1 0 tb_X3_readKept = true := by decide +kernel
theorem con_X3_readKept {X : ts_X} {l : Launch} (hJ : ts_J X l) : ts_Met X l (ts_mi 58) 2 F_X3_readKept := ts_con (ts_mi 58) 2 (E := E_X3_readKept) (mi := ts_mi) (cs := [55, 21, 54]) (tb := tb_X3_readKept) (plainFor_of_name (by decide +kernel)) hJ.1 (List.forall_mem_cons.mpr ⟨⟨mw_55, 0, by decide, con_X3_isNumber hJ⟩, List.forall_mem_cons.mpr ⟨⟨mw_21, 0, by decide, con_X1_keep hJ⟩, List.forall_mem_cons.mpr ⟨⟨mw_54, 1, by decide, con_X3_readToken hJ⟩, fun _ h => absurd h List.not_mem_nil⟩⟩⟩) ok_X3_readKept
def tb_X3_readSill : List (Option ts_I) := [some (.aload_n 1, 1, 0, []), some (.iload_n 2, 2, 0, []), some (.invokevirtual 62, 17, 2, [(3120, 0), (0, 0)]), none, none, some (.istore_n 3, 3, 0, []), some (.iload_n 3, 3, 0, []), some (.iconst (-1), 4294967295, 0, []), some (.if_icmp .ne 5, 13, 0, []), none, none, some (.iconst 0, 0, 0, []), some (.ireturn, 1, 0, []), some (.aload_n 0, 0, 0, []), some (.invokevirtual 31, 54, 1, [(3018, 2), (1, 0)]), none, none, some (.aload_n 0, 0, 0, []), some (.ldc 68, 9, 1, [(9, 0)]), none, some (.invokevirtual 40, 5, 2, [(3034, 2), (0, 0)]), none, none, some (.ifCond .eq 18, 41, 0, []), none, none, some (.aload_n 0, 0, 0, []), some (.invokevirtual 31, 54, 1, [(3018, 2), (1, 0)]), none, none, some (.aload_n 0, 0, 0, []), some (.aload_n 1, 1, 0, []), some (.iload_n 3, 3, 0, []), some (.invokevirtual 70, 58, 3, [(3122, 2), (0, 0)]), none, none, some (.ifCond .ne 5, 41, 0, []), none, none, some (.iconst 0, 0, 0, []), some (.ireturn, 1, 0, []), some (.aload_n 0, 0, 0, []), some (.ldc 73, 10, 1, [(10, 0)]), none, some (.invokevirtual 40, 5, 2, [(3034, 2), (0, 0)]), none, none, some (.ifCond .eq 14, 61, 0, []), none, none, some (.aload_n 1, 1, 0, []), some (.getfield 75, 0, 7, [(1045, 0)]), none, none, some (.iload_n 3, 3, 0, []), some (.iconst 1, 1, 0, []), some (.iastore, 0, 0, []), some (.aload_n 0, 0, 0, []), some (.invokevirtual 31, 54, 1, [(3018, 2), (1, 0)]), none, none, some (.iconst 1, 1, 0, []), some (.ireturn, 1, 0, [])]
noncomputable def E_X3_readSill : ts_E := fun z => if z = 17 then F_X1_addSill else if z = 54 then F_X3_readToken else if z = 5 then F_X3_isWord else if z = 58 then F_X3_readKept else fun _ _ => none
noncomputable def F_X3_readSill : List ts_V → ts_S → Option ts_A := ts_Fn E_X3_readSill tb_X3_readSill 4
set_option maxRecDepth 20000 in
theorem ok_X3_readSill : ts_tbo 5 ts_mi [17, 54, 5, 58] (ts_mi 59).1.cls (ts_mi 59).2.2.2.1 (ts_mi 59).2.1 0 tb_X3_readSill = true := by decide +kernel
theorem con_X3_readSill {X : ts_X} {l : Launch} (hJ : ts_J X l) : ts_Met X l (ts_mi 59) 5 F_X3_readSill := ts_con (ts_mi 59) 5 (E := E_X3_readSill) (mi := ts_mi) (cs := [17, 54, 5, 58]) (tb := tb_X3_readSill) (plainFor_of_name (by decide +kernel)) hJ.1 (List.forall_mem_cons.mpr ⟨⟨mw_17, 0, by decide, con_X1_addSill hJ⟩, List.forall_mem_cons.mpr ⟨⟨mw_54, 1, by decide, con_X3_readToken hJ⟩, List.forall_mem_cons.mpr ⟨⟨mw_5, 4, by decide, con_X3_isWord hJ⟩, List.forall_mem_cons.mpr ⟨⟨mw_58, 2, by decide, con_X3_readKept hJ⟩, fun _ h => absurd h List.not_mem_nil⟩⟩⟩⟩) ok_X3_readSill
def tb_X3_readItem : List (Option ts_I) := [some (.aload_n 0, 0, 0, []), some (.ldc 38, 7, 1, [(7, 0)]), none, some (.invokevirtual 40, 5, 2, [(3034, 2), (0, 0)]), none, none, some (.ifCond .eq 9, 15, 0, []), none, none, some (.aload_n 0, 0, 0, []), some (.aload_n 1, 1, 0, []), some (.invokevirtual 44, 56, 2, [(3086, 2), (0, 0)]), none, none, some (.ireturn, 1, 0, []), some (.aload_n 0, 0, 0, []), some (.ldc 47, 8, 1, [(8, 0)]), none, some (.invokevirtual 40, 5, 2, [(3034, 2), (0, 0)]), none, none, some (.ifCond .eq 9, 30, 0, []), none, none, some (.aload_n 0, 0, 0, []), some (.aload_n 1, 1, 0, []), some (.invokevirtual 49, 57, 2, [(3098, 2), (0, 0)]), none, none, some (.ireturn, 1, 0, []), some (.aload_n 0, 0, 0, []), some (.invokestatic 52, 6, 1, [(3102, 9), (0, 0)]), none, none, some (.istore_n 2, 2, 0, []), some (.iload_n 2, 2, 0, []), some (.iconst (-1), 4294967295, 0, []), some (.if_icmp .eq 16, 53, 0, []), none, none, some (.aload_n 0, 0, 0, []), some (.aload_n 1, 1, 0, []), some (.iload_n 2, 2, 0, []), some (.invokevirtual 58, 59, 3, [(3116, 2), (0, 0)]), none, none, some (.ifCond .eq 7, 53, 0, []), none, none, some (.iconst 1, 1, 0, []), some (.goto 4, 54, 0, []), none, none, some (.iconst 0, 0, 0, []), some (.ireturn, 1, 0, [])]
noncomputable def E_X3_readItem : ts_E := fun z => if z = 5 then F_X3_isWord else if z = 56 then F_X3_readPerson else if z = 57 then F_X3_readCrossing else if z = 6 then F_X0_kindNamed else if z = 59 then F_X3_readSill else fun _ _ => none
noncomputable def F_X3_readItem : List ts_V → ts_S → Option ts_A := ts_Fn E_X3_readItem tb_X3_readItem 3
set_option maxRecDepth 20000 in
theorem ok_X3_readItem : ts_tbo 6 ts_mi [5, 56, 57, 6, 59] (ts_mi 60).1.cls (ts_mi 60).2.2.2.1 (ts_mi 60).2.1 0 tb_X3_readItem = true := by decide +kernel
theorem con_X3_readItem {X : ts_X} {l : Launch} (hJ : ts_J X l) : ts_Met X l (ts_mi 60) 6 F_X3_readItem := ts_con (ts_mi 60) 6 (E := E_X3_readItem) (mi := ts_mi) (cs := [5, 56, 57, 6, 59]) (tb := tb_X3_readItem) (plainFor_of_name (by decide +kernel)) hJ.1 (List.forall_mem_cons.mpr ⟨⟨mw_5, 4, by decide, con_X3_isWord hJ⟩, List.forall_mem_cons.mpr ⟨⟨mw_56, 5, by decide, con_X3_readPerson hJ⟩, List.forall_mem_cons.mpr ⟨⟨mw_57, 2, by decide, con_X3_readCrossing hJ⟩, List.forall_mem_cons.mpr ⟨⟨mw_6, 5, by decide, con_X0_kindNamed hJ⟩, List.forall_mem_cons.mpr ⟨⟨mw_59, 5, by decide, con_X3_readSill hJ⟩, fun _ h => absurd h List.not_mem_nil⟩⟩⟩⟩⟩) ok_X3_readItem
def tb_X3_readItems : List (Option ts_I) := [some (.aload_n 0, 0, 0, []), some (.iconst 0, 0, 0, []), some (.putfield 25, 2, 4, [(1106, 0)]), none, none, some (.aload_n 0, 0, 0, []), some (.invokevirtual 31, 54, 1, [(3018, 2), (1, 0)]), none, none, some (.iconst 1, 1, 0, []), some (.istore_n 2, 2, 0, []), some (.iload_n 2, 2, 0, []), some (.bipush 120, 120, 0, []), none, some (.if_icmp .gt 52, 66, 0, []), none, none, some (.aload_n 0, 0, 0, []), some (.aload_n 1, 1, 0, []), some (.invokevirtual 34, 60, 2, [(3029, 2), (0, 0)]), none, none, some (.ifCond .ne 10, 32, 0, []), none, none, some (.iconst (-1), 4294967295, 0, []), some (.aload_n 0, 0, 0, []), some (.getfield 22, 2, 3, [(1105, 0)]), none, none, some (.isub, 0, 0, []), some (.ireturn, 0, 0, []), some (.aload_n 0, 0, 0, []), some (.getfield 19, 2, 2, [(1104, 0)]), none, none, some (.ifCond .ne 5, 41, 0, []), none, none, some (.iload_n 2, 2, 0, []), some (.ireturn, 0, 0, []), some (.aload_n 0, 0, 0, []), some (.getfield 19, 2, 2, [(1104, 0)]), none, none, some (.iconst 3, 3, 0, []), some (.if_icmp .eq 10, 56, 0, []), none, none, some (.iconst (-1), 4294967295, 0, []), some (.aload_n 0, 0, 0, []), some (.getfield 22, 2, 3, [(1105, 0)]), none, none, some (.isub, 0, 0, []), some (.ireturn, 0, 0, []), some (.aload_n 0, 0, 0, []), some (.invokevirtual 31, 54, 1, [(3018, 2), (1, 0)]), none, none, some (.iinc 2 1, 2, 1, []), none, none, some (.goto (-52), 11, 0, []), none, none, some (.iconst (-1), 4294967295, 0, []), some (.aload_n 0, 0, 0, []), some (.getfield 22, 2, 3, [(1105, 0)]), none, none, some (.isub, 0, 0, []), some (.ireturn, 0, 0, [])]
noncomputable def E_X3_readItems : ts_E := fun z => if z = 54 then F_X3_readToken else if z = 60 then F_X3_readItem else fun _ _ => none
noncomputable def F_X3_readItems : List ts_V → ts_S → Option ts_A := ts_Fn E_X3_readItems tb_X3_readItems 3
set_option maxRecDepth 20000 in
theorem ok_X3_readItems : ts_tbo 7 ts_mi [54, 60] (ts_mi 61).1.cls (ts_mi 61).2.2.2.1 (ts_mi 61).2.1 0 tb_X3_readItems = true := by decide +kernel
theorem con_X3_readItems {X : ts_X} {l : Launch} (hJ : ts_J X l) : ts_Met X l (ts_mi 61) 7 F_X3_readItems := ts_con (ts_mi 61) 7 (E := E_X3_readItems) (mi := ts_mi) (cs := [54, 60]) (tb := tb_X3_readItems) (plainFor_of_name (by decide +kernel)) hJ.1 (List.forall_mem_cons.mpr ⟨⟨mw_54, 1, by decide, con_X3_readToken hJ⟩, List.forall_mem_cons.mpr ⟨⟨mw_60, 6, by decide, con_X3_readItem hJ⟩, fun _ h => absurd h List.not_mem_nil⟩⟩) ok_X3_readItems
def tb_X4_tell : List (Option ts_I) := [some (.iload_n 1, 1, 0, []), some (.bipush 7, 7, 0, []), none, some (.invokestatic 44, 13, 2, [(1165, 9), (0, 0)]), none, none, some (.ifCond .eq 13, 19, 0, []), none, none, some (.aload_n 0, 0, 0, []), some (.getfield 40, 3, 6, [(1145, 0)]), none, none, some (.iload_n 1, 1, 0, []), some (.dup2, 0, 0, []), some (.iaload, 0, 0, []), some (.iconst 1, 1, 0, []), some (.iadd, 0, 0, []), some (.iastore, 0, 0, []), some (.ldc 254, 4293967295, 0, [(1172, 0)]), none, some (.iload_n 1, 1, 0, []), some (.isub, 0, 0, []), some (.ireturn, 0, 0, [])]
noncomputable def E_X4_tell : ts_E := fun z => if z = 13 then F_X4_isBelow else fun _ _ => none
noncomputable def F_X4_tell : List ts_V → ts_S → Option ts_A := ts_Fn E_X4_tell tb_X4_tell 2
set_option maxRecDepth 20000 in
theorem ok_X4_tell : ts_tbo 1 ts_mi [13] (ts_mi 62).1.cls (ts_mi 62).2.2.2.1 (ts_mi 62).2.1 0 tb_X4_tell = true := by decide +kernel
theorem con_X4_tell {X : ts_X} {l : Launch} (hJ : ts_J X l) : ts_Met X l (ts_mi 62) 1 F_X4_tell := ts_con (ts_mi 62) 1 (E := E_X4_tell) (mi := ts_mi) (cs := [13]) (tb := tb_X4_tell) (plainFor_of_name (by decide +kernel)) hJ.1 (List.forall_mem_cons.mpr ⟨⟨mw_13, 0, by decide, con_X4_isBelow hJ⟩, fun _ h => absurd h List.not_mem_nil⟩) ok_X4_tell
def tb_X4_list : List (Option ts_I) := [some (.iload_n 1, 1, 0, []), some (.bipush 6, 6, 0, []), none, some (.invokestatic 44, 13, 2, [(1165, 9), (0, 0)]), none, none, some (.ifCond .eq 21, 27, 0, []), none, none, some (.iload_n 2, 2, 0, []), some (.bipush 6, 6, 0, []), none, some (.invokestatic 44, 13, 2, [(1165, 9), (0, 0)]), none, none, some (.ifCond .eq 12, 27, 0, []), none, none, some (.iload_n 3, 3, 0, []), some (.bipush 8, 8, 0, []), none, some (.invokestatic 44, 13, 2, [(1165, 9), (0, 0)]), none, none, some (.ifCond .ne 9, 33, 0, []), none, none, some (.aload_n 0, 0, 0, []), some (.iconst 0, 0, 0, []), some (.invokevirtual 48, 62, 2, [(1168, 3), (0, 0)]), none, none, some (.ireturn, 0, 0, []), some (.aload_n 0, 0, 0, []), some (.getfield 10, 3, 0, [(1139, 0)]), none, none, some (.getfield 52, 0, 0, [(1029, 0)]), none, none, some (.iload_n 1, 1, 0, []), some (.iaload, 0, 0, []), some (.istore 4, 4, 0, []), none, some (.aload_n 0, 0, 0, []), some (.getfield 10, 3, 0, [(1139, 0)]), none, none, some (.getfield 52, 0, 0, [(1029, 0)]), none, none, some (.iload_n 1, 1, 0, []), some (.bipush 10, 10, 0, []), none, some (.iload_n 2, 2, 0, []), some (.imul, 0, 0, []), some (.iload_n 3, 3, 0, []), some (.iadd, 0, 0, []), some (.iastore, 0, 0, []), some (.iload 4, 4, 0, []), none, some (.ireturn, 0, 0, [])]
noncomputable def E_X4_list : ts_E := fun z => if z = 13 then F_X4_isBelow else if z = 62 then F_X4_tell else fun _ _ => none
noncomputable def F_X4_list : List ts_V → ts_S → Option ts_A := ts_Fn E_X4_list tb_X4_list 5
set_option maxRecDepth 20000 in
theorem ok_X4_list : ts_tbo 2 ts_mi [13, 62] (ts_mi 63).1.cls (ts_mi 63).2.2.2.1 (ts_mi 63).2.1 0 tb_X4_list = true := by decide +kernel
theorem con_X4_list {X : ts_X} {l : Launch} (hJ : ts_J X l) : ts_Met X l (ts_mi 63) 2 F_X4_list := ts_con (ts_mi 63) 2 (E := E_X4_list) (mi := ts_mi) (cs := [13, 62]) (tb := tb_X4_list) (plainFor_of_name (by decide +kernel)) hJ.1 (List.forall_mem_cons.mpr ⟨⟨mw_13, 0, by decide, con_X4_isBelow hJ⟩, List.forall_mem_cons.mpr ⟨⟨mw_62, 1, by decide, con_X4_tell hJ⟩, fun _ h => absurd h List.not_mem_nil⟩⟩) ok_X4_list
def tb_X4_listed : List (Option ts_I) := [some (.iload_n 1, 1, 0, []), some (.bipush 6, 6, 0, []), none, some (.invokestatic 44, 13, 2, [(1165, 9), (0, 0)]), none, none, some (.ifCond .eq 15, 21, 0, []), none, none, some (.aload_n 0, 0, 0, []), some (.getfield 10, 3, 0, [(1139, 0)]), none, none, some (.getfield 52, 0, 0, [(1029, 0)]), none, none, some (.iload_n 1, 1, 0, []), some (.iaload, 0, 0, []), some (.goto 8, 26, 0, []), none, none, some (.aload_n 0, 0, 0, []), some (.iconst 0, 0, 0, []), some (.invokevirtual 48, 62, 2, [(1168, 3), (0, 0)]), none, none, some (.ireturn, 0, 0, [])]
noncomputable def E_X4_listed : ts_E := fun z => if z = 13 then F_X4_isBelow else if z = 62 then F_X4_tell else fun _ _ => none
noncomputable def F_X4_listed : List ts_V → ts_S → Option ts_A := ts_Fn E_X4_listed tb_X4_listed 2
set_option maxRecDepth 20000 in
theorem ok_X4_listed : ts_tbo 2 ts_mi [13, 62] (ts_mi 64).1.cls (ts_mi 64).2.2.2.1 (ts_mi 64).2.1 0 tb_X4_listed = true := by decide +kernel
theorem con_X4_listed {X : ts_X} {l : Launch} (hJ : ts_J X l) : ts_Met X l (ts_mi 64) 2 F_X4_listed := ts_con (ts_mi 64) 2 (E := E_X4_listed) (mi := ts_mi) (cs := [13, 62]) (tb := tb_X4_listed) (plainFor_of_name (by decide +kernel)) hJ.1 (List.forall_mem_cons.mpr ⟨⟨mw_13, 0, by decide, con_X4_isBelow hJ⟩, List.forall_mem_cons.mpr ⟨⟨mw_62, 1, by decide, con_X4_tell hJ⟩, fun _ h => absurd h List.not_mem_nil⟩⟩) ok_X4_listed
def tb_X4_sill : List (Option ts_I) := [some (.iload_n 1, 1, 0, []), some (.bipush 7, 7, 0, []), none, some (.invokestatic 44, 13, 2, [(1165, 9), (0, 0)]), none, none, some (.ifCond .ne 9, 15, 0, []), none, none, some (.aload_n 0, 0, 0, []), some (.iconst 0, 0, 0, []), some (.invokevirtual 48, 62, 2, [(1168, 3), (0, 0)]), none, none, some (.ireturn, 0, 0, []), some (.aload_n 0, 0, 0, []), some (.getfield 10, 3, 0, [(1139, 0)]), none, none, some (.iload_n 1, 1, 0, []), some (.invokevirtual 57, 17, 2, [(1181, 0), (0, 0)]), none, none, some (.istore_n 2, 2, 0, []), some (.iload_n 2, 2, 0, []), some (.iconst (-1), 4294967295, 0, []), some (.if_icmp .ne 11, 37, 0, []), none, none, some (.aload_n 0, 0, 0, []), some (.iconst 1, 1, 0, []), some (.invokevirtual 48, 62, 2, [(1168, 3), (0, 0)]), none, none, some (.goto 4, 38, 0, []), none, none, some (.iload_n 2, 2, 0, []), some (.ireturn, 0, 0, [])]
noncomputable def E_X4_sill : ts_E := fun z => if z = 13 then F_X4_isBelow else if z = 62 then F_X4_tell else if z = 17 then F_X1_addSill else fun _ _ => none
noncomputable def F_X4_sill : List ts_V → ts_S → Option ts_A := ts_Fn E_X4_sill tb_X4_sill 3
set_option maxRecDepth 20000 in
theorem ok_X4_sill : ts_tbo 2 ts_mi [13, 62, 17] (ts_mi 65).1.cls (ts_mi 65).2.2.2.1 (ts_mi 65).2.1 0 tb_X4_sill = true := by decide +kernel
theorem con_X4_sill {X : ts_X} {l : Launch} (hJ : ts_J X l) : ts_Met X l (ts_mi 65) 2 F_X4_sill := ts_con (ts_mi 65) 2 (E := E_X4_sill) (mi := ts_mi) (cs := [13, 62, 17]) (tb := tb_X4_sill) (plainFor_of_name (by decide +kernel)) hJ.1 (List.forall_mem_cons.mpr ⟨⟨mw_13, 0, by decide, con_X4_isBelow hJ⟩, List.forall_mem_cons.mpr ⟨⟨mw_62, 1, by decide, con_X4_tell hJ⟩, List.forall_mem_cons.mpr ⟨⟨mw_17, 0, by decide, con_X1_addSill hJ⟩, fun _ h => absurd h List.not_mem_nil⟩⟩⟩) ok_X4_sill
def tb_X4_isWithin : List (Option ts_I) := [some (.iload_n 0, 0, 0, []), some (.iload_n 1, 1, 0, []), some (.if_icmp .lt 12, 14, 0, []), none, none, some (.iload_n 0, 0, 0, []), some (.iload_n 2, 2, 0, []), some (.if_icmp .gt 7, 14, 0, []), none, none, some (.iconst 1, 1, 0, []), some (.goto 4, 15, 0, []), none, none, some (.iconst 0, 0, 0, []), some (.ireturn, 1, 0, [])]
noncomputable def E_X4_isWithin : ts_E := fun _ _ _ => none
noncomputable def F_X4_isWithin : List ts_V → ts_S → Option ts_A := ts_Fn E_X4_isWithin tb_X4_isWithin 3
set_option maxRecDepth 20000 in
theorem ok_X4_isWithin : ts_tbo 0 ts_mi [] (ts_mi 66).1.cls (ts_mi 66).2.2.2.1 (ts_mi 66).2.1 0 tb_X4_isWithin = true := by decide +kernel
theorem con_X4_isWithin {X : ts_X} {l : Launch} (hJ : ts_J X l) : ts_Met X l (ts_mi 66) 0 F_X4_isWithin := ts_con (ts_mi 66) 0 (E := E_X4_isWithin) (mi := ts_mi) (cs := []) (tb := tb_X4_isWithin) (plainFor_of_name (by decide +kernel)) hJ.1 (fun _ h => absurd h List.not_mem_nil) ok_X4_isWithin
def tb_X4_person : List (Option ts_I) := [some (.iload_n 1, 1, 0, []), some (.iconst 0, 0, 0, []), some (.sipush 4095, 4095, 0, []), none, none, some (.invokestatic 60, 66, 3, [(1189, 9), (0, 0)]), none, none, some (.ifCond .ne 9, 17, 0, []), none, none, some (.aload_n 0, 0, 0, []), some (.iconst 0, 0, 0, []), some (.invokevirtual 48, 62, 2, [(1168, 3), (0, 0)]), none, none, some (.ireturn, 0, 0, []), some (.aload_n 0, 0, 0, []), some (.getfield 10, 3, 0, [(1139, 0)]), none, none, some (.iload_n 1, 1, 0, []), some (.invokevirtual 64, 18, 2, [(1192, 0), (0, 0)]), none, none, some (.istore_n 2, 2, 0, []), some (.iload_n 2, 2, 0, []), some (.iconst (-1), 4294967295, 0, []), some (.if_icmp .ne 11, 39, 0, []), none, none, some (.aload_n 0, 0, 0, []), some (.iconst 1, 1, 0, []), some (.invokevirtual 48, 62, 2, [(1168, 3), (0, 0)]), none, none, some (.goto 4, 40, 0, []), none, none, some (.iload_n 2, 2, 0, []), some (.ireturn, 0, 0, [])]
noncomputable def E_X4_person : ts_E := fun z => if z = 66 then F_X4_isWithin else if z = 62 then F_X4_tell else if z = 18 then F_X1_addPerson else fun _ _ => none
noncomputable def F_X4_person : List ts_V → ts_S → Option ts_A := ts_Fn E_X4_person tb_X4_person 3
set_option maxRecDepth 20000 in
theorem ok_X4_person : ts_tbo 2 ts_mi [66, 62, 18] (ts_mi 67).1.cls (ts_mi 67).2.2.2.1 (ts_mi 67).2.1 0 tb_X4_person = true := by decide +kernel
theorem con_X4_person {X : ts_X} {l : Launch} (hJ : ts_J X l) : ts_Met X l (ts_mi 67) 2 F_X4_person := ts_con (ts_mi 67) 2 (E := E_X4_person) (mi := ts_mi) (cs := [66, 62, 18]) (tb := tb_X4_person) (plainFor_of_name (by decide +kernel)) hJ.1 (List.forall_mem_cons.mpr ⟨⟨mw_66, 0, by decide, con_X4_isWithin hJ⟩, List.forall_mem_cons.mpr ⟨⟨mw_62, 1, by decide, con_X4_tell hJ⟩, List.forall_mem_cons.mpr ⟨⟨mw_18, 0, by decide, con_X1_addPerson hJ⟩, fun _ h => absurd h List.not_mem_nil⟩⟩⟩) ok_X4_person
def tb_X4_of : List (Option ts_I) := [some (.aload_n 0, 0, 0, []), some (.getfield 10, 3, 0, [(1139, 0)]), none, none, some (.iload_n 1, 1, 0, []), some (.invokevirtual 67, 14, 2, [(1200, 0), (0, 0)]), none, none, some (.ifCond .eq 13, 21, 0, []), none, none, some (.iload_n 2, 2, 0, []), some (.iconst 0, 0, 0, []), some (.bipush 6, 6, 0, []), none, some (.invokestatic 60, 66, 3, [(1189, 9), (0, 0)]), none, none, some (.ifCond .ne 9, 27, 0, []), none, none, some (.aload_n 0, 0, 0, []), some (.iconst 0, 0, 0, []), some (.invokevirtual 48, 62, 2, [(1168, 3), (0, 0)]), none, none, some (.ireturn, 0, 0, []), some (.aload_n 0, 0, 0, []), some (.getfield 10, 3, 0, [(1139, 0)]), none, none, some (.iload_n 1, 1, 0, []), some (.iload_n 2, 2, 0, []), some (.invokevirtual 71, 24, 3, [(1205, 0), (0, 0)]), none, none, some (.ireturn, 0, 0, [])]
noncomputable def E_X4_of : ts_E := fun z => if z = 14 then F_X1_isSill else if z = 66 then F_X4_isWithin else if z = 62 then F_X4_tell else if z = 24 then F_X1_tellSill else fun _ _ => none
noncomputable def F_X4_of : List ts_V → ts_S → Option ts_A := ts_Fn E_X4_of tb_X4_of 3
set_option maxRecDepth 20000 in
theorem ok_X4_of : ts_tbo 3 ts_mi [14, 66, 62, 24] (ts_mi 68).1.cls (ts_mi 68).2.2.2.1 (ts_mi 68).2.1 0 tb_X4_of = true := by decide +kernel
theorem con_X4_of {X : ts_X} {l : Launch} (hJ : ts_J X l) : ts_Met X l (ts_mi 68) 3 F_X4_of := ts_con (ts_mi 68) 3 (E := E_X4_of) (mi := ts_mi) (cs := [14, 66, 62, 24]) (tb := tb_X4_of) (plainFor_of_name (by decide +kernel)) hJ.1 (List.forall_mem_cons.mpr ⟨⟨mw_14, 1, by decide, con_X1_isSill hJ⟩, List.forall_mem_cons.mpr ⟨⟨mw_66, 0, by decide, con_X4_isWithin hJ⟩, List.forall_mem_cons.mpr ⟨⟨mw_62, 1, by decide, con_X4_tell hJ⟩, List.forall_mem_cons.mpr ⟨⟨mw_24, 2, by decide, con_X1_tellSill hJ⟩, fun _ h => absurd h List.not_mem_nil⟩⟩⟩⟩) ok_X4_of
def tb_X4_word : List (Option ts_I) := [some (.aload_n 0, 0, 0, []), some (.getfield 10, 3, 0, [(1139, 0)]), none, none, some (.iload_n 1, 1, 0, []), some (.invokevirtual 67, 14, 2, [(1200, 0), (0, 0)]), none, none, some (.ifCond .eq 7, 15, 0, []), none, none, some (.iload_n 2, 2, 0, []), some (.ifCond .ge 9, 21, 0, []), none, none, some (.aload_n 0, 0, 0, []), some (.iconst 0, 0, 0, []), some (.invokevirtual 48, 62, 2, [(1168, 3), (0, 0)]), none, none, some (.ireturn, 0, 0, []), some (.aload_n 0, 0, 0, []), some (.getfield 10, 3, 0, [(1139, 0)]), none, none, some (.iload_n 1, 1, 0, []), some (.iload_n 2, 2, 0, []), some (.invokevirtual 75, 19, 3, [(1231, 0), (0, 0)]), none, none, some (.istore_n 3, 3, 0, []), some (.iload_n 3, 3, 0, []), some (.iconst (-1), 4294967295, 0, []), some (.if_icmp .ne 11, 44, 0, []), none, none, some (.aload_n 0, 0, 0, []), some (.iconst 3, 3, 0, []), some (.invokevirtual 48, 62, 2, [(1168, 3), (0, 0)]), none, none, some (.goto 4, 45, 0, []), none, none, some (.iload_n 3, 3, 0, []), some (.ireturn, 0, 0, [])]
noncomputable def E_X4_word : ts_E := fun z => if z = 14 then F_X1_isSill else if z = 62 then F_X4_tell else if z = 19 then F_X1_keptAt else fun _ _ => none
noncomputable def F_X4_word : List ts_V → ts_S → Option ts_A := ts_Fn E_X4_word tb_X4_word 4
set_option maxRecDepth 20000 in
theorem ok_X4_word : ts_tbo 2 ts_mi [14, 62, 19] (ts_mi 69).1.cls (ts_mi 69).2.2.2.1 (ts_mi 69).2.1 0 tb_X4_word = true := by decide +kernel
theorem con_X4_word {X : ts_X} {l : Launch} (hJ : ts_J X l) : ts_Met X l (ts_mi 69) 2 F_X4_word := ts_con (ts_mi 69) 2 (E := E_X4_word) (mi := ts_mi) (cs := [14, 62, 19]) (tb := tb_X4_word) (plainFor_of_name (by decide +kernel)) hJ.1 (List.forall_mem_cons.mpr ⟨⟨mw_14, 1, by decide, con_X1_isSill hJ⟩, List.forall_mem_cons.mpr ⟨⟨mw_62, 1, by decide, con_X4_tell hJ⟩, List.forall_mem_cons.mpr ⟨⟨mw_19, 1, by decide, con_X1_keptAt hJ⟩, fun _ h => absurd h List.not_mem_nil⟩⟩⟩) ok_X4_word
def tb_X4_replace : List (Option ts_I) := [some (.iload_n 1, 1, 0, []), some (.aload_n 0, 0, 0, []), some (.arraylength, 0, 0, []), some (.invokestatic 44, 13, 2, [(1165, 9), (0, 0)]), none, none, some (.ifCond .ne 5, 11, 0, []), none, none, some (.iconst (-1), 4294967295, 0, []), some (.ireturn, 0, 0, []), some (.aload_n 0, 0, 0, []), some (.iload_n 1, 1, 0, []), some (.iaload, 0, 0, []), some (.istore_n 3, 3, 0, []), some (.aload_n 0, 0, 0, []), some (.iload_n 1, 1, 0, []), some (.iload_n 2, 2, 0, []), some (.iastore, 0, 0, []), some (.iload_n 3, 3, 0, []), some (.ireturn, 0, 0, [])]
noncomputable def E_X4_replace : ts_E := fun z => if z = 13 then F_X4_isBelow else fun _ _ => none
noncomputable def F_X4_replace : List ts_V → ts_S → Option ts_A := ts_Fn E_X4_replace tb_X4_replace 4
set_option maxRecDepth 20000 in
theorem ok_X4_replace : ts_tbo 1 ts_mi [13] (ts_mi 70).1.cls (ts_mi 70).2.2.2.1 (ts_mi 70).2.1 0 tb_X4_replace = true := by decide +kernel
theorem con_X4_replace {X : ts_X} {l : Launch} (hJ : ts_J X l) : ts_Met X l (ts_mi 70) 1 F_X4_replace := ts_con (ts_mi 70) 1 (E := E_X4_replace) (mi := ts_mi) (cs := [13]) (tb := tb_X4_replace) (plainFor_of_name (by decide +kernel)) hJ.1 (List.forall_mem_cons.mpr ⟨⟨mw_13, 0, by decide, con_X4_isBelow hJ⟩, fun _ h => absurd h List.not_mem_nil⟩) ok_X4_replace
def tb_X4_change : List (Option ts_I) := [some (.aload_n 0, 0, 0, []), some (.getfield 10, 3, 0, [(1139, 0)]), none, none, some (.iload_n 1, 1, 0, []), some (.invokevirtual 67, 14, 2, [(1200, 0), (0, 0)]), none, none, some (.ifCond .ne 9, 17, 0, []), none, none, some (.aload_n 0, 0, 0, []), some (.iconst 0, 0, 0, []), some (.invokevirtual 48, 62, 2, [(1168, 3), (0, 0)]), none, none, some (.ireturn, 0, 0, []), some (.iload_n 2, 2, 0, []), some (.tableswitch 122 0 3 #[30, 122, 60, 92], 140, 30, [(0, 48), (1, 140), (2, 78), (3, 110)]), none, none, none, none, none, none, none, none, none, none, none, none, none, none, none, none, none, none, none, none, none, none, none, none, none, none, none, none, none, some (.iload_n 3, 3, 0, []), some (.bipush 7, 7, 0, []), none, some (.invokestatic 44, 13, 2, [(1165, 9), (0, 0)]), none, none, some (.ifCond .eq 18, 72, 0, []), none, none, some (.aload_n 0, 0, 0, []), some (.getfield 10, 3, 0, [(1139, 0)]), none, none, some (.getfield 78, 0, 5, [(1041, 0)]), none, none, some (.iload_n 1, 1, 0, []), some (.iload_n 3, 3, 0, []), some (.invokestatic 81, 70, 3, [(1236, 9), (0, 0)]), none, none, some (.goto 8, 77, 0, []), none, none, some (.aload_n 0, 0, 0, []), some (.iconst 0, 0, 0, []), some (.invokevirtual 48, 62, 2, [(1168, 3), (0, 0)]), none, none, some (.ireturn, 0, 0, []), some (.iload_n 3, 3, 0, []), some (.iconst 0, 0, 0, []), some (.sipush 9999, 9999, 0, []), none, none, some (.invokestatic 60, 66, 3, [(1189, 9), (0, 0)]), none, none, some (.ifCond .eq 18, 104, 0, []), none, none, some (.aload_n 0, 0, 0, []), some (.getfield 10, 3, 0, [(1139, 0)]), none, none, some (.getfield 85, 0, 6, [(1043, 0)]), none, none, some (.iload_n 1, 1, 0, []), some (.iload_n 3, 3, 0, []), some (.invokestatic 81, 70, 3, [(1236, 9), (0, 0)]), none, none, some (.goto 8, 109, 0, []), none, none, some (.aload_n 0, 0, 0, []), some (.iconst 0, 0, 0, []), some (.invokevirtual 48, 62, 2, [(1168, 3), (0, 0)]), none, none, some (.ireturn, 0, 0, []), some (.iload_n 3, 3, 0, []), some (.iconst 0, 0, 0, []), some (.iconst 1, 1, 0, []), some (.invokestatic 60, 66, 3, [(1189, 9), (0, 0)]), none, none, some (.ifCond .eq 18, 134, 0, []), none, none, some (.aload_n 0, 0, 0, []), some (.getfield 10, 3, 0, [(1139, 0)]), none, none, some (.getfield 88, 0, 7, [(1046, 0)]), none, none, some (.iload_n 1, 1, 0, []), some (.iload_n 3, 3, 0, []), some (.invokestatic 81, 70, 3, [(1236, 9), (0, 0)]), none, none, some (.goto 8, 139, 0, []), none, none, some (.aload_n 0, 0, 0, []), some (.iconst 0, 0, 0, []), some (.invokevirtual 48, 62, 2, [(1168, 3), (0, 0)]), none, none, some (.ireturn, 0, 0, []), some (.aload_n 0, 0, 0, []), some (.iconst 0, 0, 0, []), some (.invokevirtual 48, 62, 2, [(1168, 3), (0, 0)]), none, none, some (.ireturn, 0, 0, [])]
noncomputable def E_X4_change : ts_E := fun z => if z = 14 then F_X1_isSill else if z = 62 then F_X4_tell else if z = 13 then F_X4_isBelow else if z = 70 then F_X4_replace else if z = 66 then F_X4_isWithin else fun _ _ => none
noncomputable def F_X4_change : List ts_V → ts_S → Option ts_A := ts_Fn E_X4_change tb_X4_change 4
set_option maxRecDepth 20000 in
theorem ok_X4_change : ts_tbo 2 ts_mi [14, 62, 13, 70, 66] (ts_mi 71).1.cls (ts_mi 71).2.2.2.1 (ts_mi 71).2.1 0 tb_X4_change = true := by decide +kernel
theorem con_X4_change {X : ts_X} {l : Launch} (hJ : ts_J X l) : ts_Met X l (ts_mi 71) 2 F_X4_change := ts_con (ts_mi 71) 2 (E := E_X4_change) (mi := ts_mi) (cs := [14, 62, 13, 70, 66]) (tb := tb_X4_change) (plainFor_of_name (by decide +kernel)) hJ.1 (List.forall_mem_cons.mpr ⟨⟨mw_14, 1, by decide, con_X1_isSill hJ⟩, List.forall_mem_cons.mpr ⟨⟨mw_62, 1, by decide, con_X4_tell hJ⟩, List.forall_mem_cons.mpr ⟨⟨mw_13, 0, by decide, con_X4_isBelow hJ⟩, List.forall_mem_cons.mpr ⟨⟨mw_70, 1, by decide, con_X4_replace hJ⟩, List.forall_mem_cons.mpr ⟨⟨mw_66, 0, by decide, con_X4_isWithin hJ⟩, fun _ h => absurd h List.not_mem_nil⟩⟩⟩⟩⟩) ok_X4_change
def tb_X4_lay : List (Option ts_I) := [some (.aload_n 0, 0, 0, []), some (.getfield 10, 3, 0, [(1139, 0)]), none, none, some (.iload_n 1, 1, 0, []), some (.invokevirtual 67, 14, 2, [(1200, 0), (0, 0)]), none, none, some (.ifCond .eq 12, 20, 0, []), none, none, some (.iload_n 2, 2, 0, []), some (.bipush 12, 12, 0, []), none, some (.invokestatic 44, 13, 2, [(1165, 9), (0, 0)]), none, none, some (.ifCond .ne 9, 26, 0, []), none, none, some (.aload_n 0, 0, 0, []), some (.iconst 0, 0, 0, []), some (.invokevirtual 48, 62, 2, [(1168, 3), (0, 0)]), none, none, some (.ireturn, 0, 0, []), some (.aload_n 0, 0, 0, []), some (.getfield 10, 3, 0, [(1139, 0)]), none, none, some (.iload_n 1, 1, 0, []), some (.iload_n 2, 2, 0, []), some (.invokevirtual 91, 21, 3, [(2003, 0), (0, 0)]), none, none, some (.ifCond .eq 15, 50, 0, []), none, none, some (.aload_n 0, 0, 0, []), some (.getfield 10, 3, 0, [(1139, 0)]), none, none, some (.getfield 94, 0, 8, [(1049, 0)]), none, none, some (.iload_n 1, 1, 0, []), some (.iaload, 0, 0, []), some (.goto 8, 55, 0, []), none, none, some (.aload_n 0, 0, 0, []), some (.iconst 1, 1, 0, []), some (.invokevirtual 48, 62, 2, [(1168, 3), (0, 0)]), none, none, some (.ireturn, 0, 0, [])]
noncomputable def E_X4_lay : ts_E := fun z => if z = 14 then F_X1_isSill else if z = 13 then F_X4_isBelow else if z = 62 then F_X4_tell else if z = 21 then F_X1_keep else fun _ _ => none
noncomputable def F_X4_lay : List ts_V → ts_S → Option ts_A := ts_Fn E_X4_lay tb_X4_lay 3
set_option maxRecDepth 20000 in
theorem ok_X4_lay : ts_tbo 2 ts_mi [14, 13, 62, 21] (ts_mi 72).1.cls (ts_mi 72).2.2.2.1 (ts_mi 72).2.1 0 tb_X4_lay = true := by decide +kernel
theorem con_X4_lay {X : ts_X} {l : Launch} (hJ : ts_J X l) : ts_Met X l (ts_mi 72) 2 F_X4_lay := ts_con (ts_mi 72) 2 (E := E_X4_lay) (mi := ts_mi) (cs := [14, 13, 62, 21]) (tb := tb_X4_lay) (plainFor_of_name (by decide +kernel)) hJ.1 (List.forall_mem_cons.mpr ⟨⟨mw_14, 1, by decide, con_X1_isSill hJ⟩, List.forall_mem_cons.mpr ⟨⟨mw_13, 0, by decide, con_X4_isBelow hJ⟩, List.forall_mem_cons.mpr ⟨⟨mw_62, 1, by decide, con_X4_tell hJ⟩, List.forall_mem_cons.mpr ⟨⟨mw_21, 0, by decide, con_X1_keep hJ⟩, fun _ h => absurd h List.not_mem_nil⟩⟩⟩⟩) ok_X4_lay
def tb_X4_ofPerson : List (Option ts_I) := [some (.aload_n 0, 0, 0, []), some (.getfield 10, 3, 0, [(1139, 0)]), none, none, some (.iload_n 1, 1, 0, []), some (.invokevirtual 97, 15, 2, [(2011, 0), (0, 0)]), none, none, some (.ifCond .eq 12, 20, 0, []), none, none, some (.iload_n 2, 2, 0, []), some (.iconst 0, 0, 0, []), some (.iconst 2, 2, 0, []), some (.invokestatic 60, 66, 3, [(1189, 9), (0, 0)]), none, none, some (.ifCond .ne 9, 26, 0, []), none, none, some (.aload_n 0, 0, 0, []), some (.iconst 0, 0, 0, []), some (.invokevirtual 48, 62, 2, [(1168, 3), (0, 0)]), none, none, some (.ireturn, 0, 0, []), some (.aload_n 0, 0, 0, []), some (.getfield 10, 3, 0, [(1139, 0)]), none, none, some (.iload_n 1, 1, 0, []), some (.iload_n 2, 2, 0, []), some (.invokevirtual 100, 25, 3, [(2015, 0), (0, 0)]), none, none, some (.ireturn, 0, 0, [])]
noncomputable def E_X4_ofPerson : ts_E := fun z => if z = 15 then F_X1_isPerson else if z = 66 then F_X4_isWithin else if z = 62 then F_X4_tell else if z = 25 then F_X1_tellPerson else fun _ _ => none
noncomputable def F_X4_ofPerson : List ts_V → ts_S → Option ts_A := ts_Fn E_X4_ofPerson tb_X4_ofPerson 3
set_option maxRecDepth 20000 in
theorem ok_X4_ofPerson : ts_tbo 2 ts_mi [15, 66, 62, 25] (ts_mi 73).1.cls (ts_mi 73).2.2.2.1 (ts_mi 73).2.1 0 tb_X4_ofPerson = true := by decide +kernel
theorem con_X4_ofPerson {X : ts_X} {l : Launch} (hJ : ts_J X l) : ts_Met X l (ts_mi 73) 2 F_X4_ofPerson := ts_con (ts_mi 73) 2 (E := E_X4_ofPerson) (mi := ts_mi) (cs := [15, 66, 62, 25]) (tb := tb_X4_ofPerson) (plainFor_of_name (by decide +kernel)) hJ.1 (List.forall_mem_cons.mpr ⟨⟨mw_15, 1, by decide, con_X1_isPerson hJ⟩, List.forall_mem_cons.mpr ⟨⟨mw_66, 0, by decide, con_X4_isWithin hJ⟩, List.forall_mem_cons.mpr ⟨⟨mw_62, 1, by decide, con_X4_tell hJ⟩, List.forall_mem_cons.mpr ⟨⟨mw_25, 0, by decide, con_X1_tellPerson hJ⟩, fun _ h => absurd h List.not_mem_nil⟩⟩⟩⟩) ok_X4_ofPerson
def tb_X4_send : List (Option ts_I) := [some (.aload_n 0, 0, 0, []), some (.getfield 10, 3, 0, [(1139, 0)]), none, none, some (.iload_n 1, 1, 0, []), some (.invokevirtual 97, 15, 2, [(2011, 0), (0, 0)]), none, none, some (.ifCond .ne 9, 17, 0, []), none, none, some (.aload_n 0, 0, 0, []), some (.iconst 0, 0, 0, []), some (.invokevirtual 48, 62, 2, [(1168, 3), (0, 0)]), none, none, some (.ireturn, 0, 0, []), some (.iload_n 2, 2, 0, []), some (.tableswitch 127 0 2 #[26, 58, 95], 145, 26, [(0, 44), (1, 76), (2, 113)]), none, none, none, none, none, none, none, none, none, none, none, none, none, none, none, none, none, none, none, none, none, none, none, none, none, some (.iload_n 3, 3, 0, []), some (.iconst 0, 0, 0, []), some (.sipush 4095, 4095, 0, []), none, none, some (.invokestatic 60, 66, 3, [(1189, 9), (0, 0)]), none, none, some (.ifCond .eq 18, 70, 0, []), none, none, some (.aload_n 0, 0, 0, []), some (.getfield 10, 3, 0, [(1139, 0)]), none, none, some (.getfield 103, 0, 11, [(1055, 0)]), none, none, some (.iload_n 1, 1, 0, []), some (.iload_n 3, 3, 0, []), some (.invokestatic 81, 70, 3, [(1236, 9), (0, 0)]), none, none, some (.goto 8, 75, 0, []), none, none, some (.aload_n 0, 0, 0, []), some (.iconst 0, 0, 0, []), some (.invokevirtual 48, 62, 2, [(1168, 3), (0, 0)]), none, none, some (.ireturn, 0, 0, []), some (.iload_n 3, 3, 0, []), some (.iconst (-1), 4294967295, 0, []), some (.if_icmp .eq 14, 92, 0, []), none, none, some (.aload_n 0, 0, 0, []), some (.getfield 10, 3, 0, [(1139, 0)]), none, none, some (.iload_n 3, 3, 0, []), some (.invokevirtual 67, 14, 2, [(1200, 0), (0, 0)]), none, none, some (.ifCond .eq 18, 107, 0, []), none, none, some (.aload_n 0, 0, 0, []), some (.getfield 10, 3, 0, [(1139, 0)]), none, none, some (.getfield 106, 0, 12, [(1058, 0)]), none, none, some (.iload_n 1, 1, 0, []), some (.iload_n 3, 3, 0, []), some (.invokestatic 81, 70, 3, [(1236, 9), (0, 0)]), none, none, some (.goto 8, 112, 0, []), none, none, some (.aload_n 0, 0, 0, []), some (.iconst 0, 0, 0, []), some (.invokevirtual 48, 62, 2, [(1168, 3), (0, 0)]), none, none, some (.ireturn, 0, 0, []), some (.iload_n 3, 3, 0, []), some (.iconst 0, 0, 0, []), some (.sipush 9999, 9999, 0, []), none, none, some (.invokestatic 60, 66, 3, [(1189, 9), (0, 0)]), none, none, some (.ifCond .eq 18, 139, 0, []), none, none, some (.aload_n 0, 0, 0, []), some (.getfield 10, 3, 0, [(1139, 0)]), none, none, some (.getfield 109, 0, 13, [(1060, 0)]), none, none, some (.iload_n 1, 1, 0, []), some (.iload_n 3, 3, 0, []), some (.invokestatic 81, 70, 3, [(1236, 9), (0, 0)]), none, none, some (.goto 8, 144, 0, []), none, none, some (.aload_n 0, 0, 0, []), some (.iconst 0, 0, 0, []), some (.invokevirtual 48, 62, 2, [(1168, 3), (0, 0)]), none, none, some (.ireturn, 0, 0, []), some (.aload_n 0, 0, 0, []), some (.iconst 0, 0, 0, []), some (.invokevirtual 48, 62, 2, [(1168, 3), (0, 0)]), none, none, some (.ireturn, 0, 0, [])]
noncomputable def E_X4_send : ts_E := fun z => if z = 15 then F_X1_isPerson else if z = 62 then F_X4_tell else if z = 66 then F_X4_isWithin else if z = 70 then F_X4_replace else if z = 14 then F_X1_isSill else fun _ _ => none
noncomputable def F_X4_send : List ts_V → ts_S → Option ts_A := ts_Fn E_X4_send tb_X4_send 4
set_option maxRecDepth 20000 in
theorem ok_X4_send : ts_tbo 2 ts_mi [15, 62, 66, 70, 14] (ts_mi 74).1.cls (ts_mi 74).2.2.2.1 (ts_mi 74).2.1 0 tb_X4_send = true := by decide +kernel
theorem con_X4_send {X : ts_X} {l : Launch} (hJ : ts_J X l) : ts_Met X l (ts_mi 74) 2 F_X4_send := ts_con (ts_mi 74) 2 (E := E_X4_send) (mi := ts_mi) (cs := [15, 62, 66, 70, 14]) (tb := tb_X4_send) (plainFor_of_name (by decide +kernel)) hJ.1 (List.forall_mem_cons.mpr ⟨⟨mw_15, 1, by decide, con_X1_isPerson hJ⟩, List.forall_mem_cons.mpr ⟨⟨mw_62, 1, by decide, con_X4_tell hJ⟩, List.forall_mem_cons.mpr ⟨⟨mw_66, 0, by decide, con_X4_isWithin hJ⟩, List.forall_mem_cons.mpr ⟨⟨mw_70, 1, by decide, con_X4_replace hJ⟩, List.forall_mem_cons.mpr ⟨⟨mw_14, 1, by decide, con_X1_isSill hJ⟩, fun _ h => absurd h List.not_mem_nil⟩⟩⟩⟩⟩) ok_X4_send
def tb_X4_takes : List (Option ts_I) := [some (.aload_n 0, 0, 0, []), some (.getfield 10, 3, 0, [(1139, 0)]), none, none, some (.iload_n 1, 1, 0, []), some (.invokevirtual 67, 14, 2, [(1200, 0), (0, 0)]), none, none, some (.ifCond .eq 14, 22, 0, []), none, none, some (.iload_n 2, 2, 0, []), some (.iconst 0, 0, 0, []), some (.sipush 4095, 4095, 0, []), none, none, some (.invokestatic 60, 66, 3, [(1189, 9), (0, 0)]), none, none, some (.ifCond .ne 9, 28, 0, []), none, none, some (.aload_n 0, 0, 0, []), some (.iconst 0, 0, 0, []), some (.invokevirtual 48, 62, 2, [(1168, 3), (0, 0)]), none, none, some (.ireturn, 0, 0, []), some (.aload_n 0, 0, 0, []), some (.getfield 10, 3, 0, [(1139, 0)]), none, none, some (.getfield 78, 0, 5, [(1041, 0)]), none, none, some (.iload_n 1, 1, 0, []), some (.iaload, 0, 0, []), some (.iload_n 2, 2, 0, []), some (.aload_n 0, 0, 0, []), some (.getfield 10, 3, 0, [(1139, 0)]), none, none, some (.iload_n 1, 1, 0, []), some (.invokevirtual 112, 20, 2, [(2027, 0), (0, 0)]), none, none, some (.invokestatic 115, 10, 3, [(2028, 9), (0, 0)]), none, none, some (.istore_n 3, 3, 0, []), some (.iload_n 3, 3, 0, []), some (.iconst (-1), 4294967295, 0, []), some (.if_icmp .ne 11, 63, 0, []), none, none, some (.aload_n 0, 0, 0, []), some (.iconst 3, 3, 0, []), some (.invokevirtual 48, 62, 2, [(1168, 3), (0, 0)]), none, none, some (.goto 4, 64, 0, []), none, none, some (.iload_n 3, 3, 0, []), some (.ireturn, 0, 0, [])]
noncomputable def E_X4_takes : ts_E := fun z => if z = 14 then F_X1_isSill else if z = 66 then F_X4_isWithin else if z = 62 then F_X4_tell else if z = 20 then F_X1_keptSet else if z = 10 then F_X0_wordTaken else fun _ _ => none
noncomputable def F_X4_takes : List ts_V → ts_S → Option ts_A := ts_Fn E_X4_takes tb_X4_takes 4
set_option maxRecDepth 20000 in
theorem ok_X4_takes : ts_tbo 2 ts_mi [14, 66, 62, 20, 10] (ts_mi 75).1.cls (ts_mi 75).2.2.2.1 (ts_mi 75).2.1 0 tb_X4_takes = true := by decide +kernel
theorem con_X4_takes {X : ts_X} {l : Launch} (hJ : ts_J X l) : ts_Met X l (ts_mi 75) 2 F_X4_takes := ts_con (ts_mi 75) 2 (E := E_X4_takes) (mi := ts_mi) (cs := [14, 66, 62, 20, 10]) (tb := tb_X4_takes) (plainFor_of_name (by decide +kernel)) hJ.1 (List.forall_mem_cons.mpr ⟨⟨mw_14, 1, by decide, con_X1_isSill hJ⟩, List.forall_mem_cons.mpr ⟨⟨mw_66, 0, by decide, con_X4_isWithin hJ⟩, List.forall_mem_cons.mpr ⟨⟨mw_62, 1, by decide, con_X4_tell hJ⟩, List.forall_mem_cons.mpr ⟨⟨mw_20, 0, by decide, con_X1_keptSet hJ⟩, List.forall_mem_cons.mpr ⟨⟨mw_10, 1, by decide, con_X0_wordTaken hJ⟩, fun _ h => absurd h List.not_mem_nil⟩⟩⟩⟩⟩) ok_X4_takes
def tb_X4_cross : List (Option ts_I) := [some (.aload_n 0, 0, 0, []), some (.getfield 10, 3, 0, [(1139, 0)]), none, none, some (.iload_n 1, 1, 0, []), some (.invokevirtual 97, 15, 2, [(2011, 0), (0, 0)]), none, none, some (.ifCond .eq 14, 22, 0, []), none, none, some (.aload_n 0, 0, 0, []), some (.getfield 10, 3, 0, [(1139, 0)]), none, none, some (.iload_n 2, 2, 0, []), some (.invokevirtual 67, 14, 2, [(1200, 0), (0, 0)]), none, none, some (.ifCond .ne 9, 28, 0, []), none, none, some (.aload_n 0, 0, 0, []), some (.iconst 0, 0, 0, []), some (.invokevirtual 48, 62, 2, [(1168, 3), (0, 0)]), none, none, some (.ireturn, 0, 0, []), some (.aload_n 0, 0, 0, []), some (.getfield 10, 3, 0, [(1139, 0)]), none, none, some (.iload_n 1, 1, 0, []), some (.iload_n 2, 2, 0, []), some (.invokevirtual 119, 26, 3, [(2041, 0), (0, 0)]), none, none, some (.ifCond .eq 15, 52, 0, []), none, none, some (.aload_n 0, 0, 0, []), some (.getfield 10, 3, 0, [(1139, 0)]), none, none, some (.iload_n 1, 1, 0, []), some (.iload_n 2, 2, 0, []), some (.invokevirtual 122, 31, 3, [(2045, 0), (0, 0)]), none, none, some (.goto 8, 57, 0, []), none, none, some (.aload_n 0, 0, 0, []), some (.iconst 4, 4, 0, []), some (.invokevirtual 48, 62, 2, [(1168, 3), (0, 0)]), none, none, some (.ireturn, 0, 0, [])]
noncomputable def E_X4_cross : ts_E := fun z => if z = 15 then F_X1_isPerson else if z = 14 then F_X1_isSill else if z = 62 then F_X4_tell else if z = 26 then F_X1_mayCross else if z = 31 then F_X1_makeCrossing else fun _ _ => none
noncomputable def F_X4_cross : List ts_V → ts_S → Option ts_A := ts_Fn E_X4_cross tb_X4_cross 3
set_option maxRecDepth 20000 in
theorem ok_X4_cross : ts_tbo 4 ts_mi [15, 14, 62, 26, 31] (ts_mi 76).1.cls (ts_mi 76).2.2.2.1 (ts_mi 76).2.1 0 tb_X4_cross = true := by decide +kernel
theorem con_X4_cross {X : ts_X} {l : Launch} (hJ : ts_J X l) : ts_Met X l (ts_mi 76) 4 F_X4_cross := ts_con (ts_mi 76) 4 (E := E_X4_cross) (mi := ts_mi) (cs := [15, 14, 62, 26, 31]) (tb := tb_X4_cross) (plainFor_of_name (by decide +kernel)) hJ.1 (List.forall_mem_cons.mpr ⟨⟨mw_15, 1, by decide, con_X1_isPerson hJ⟩, List.forall_mem_cons.mpr ⟨⟨mw_14, 1, by decide, con_X1_isSill hJ⟩, List.forall_mem_cons.mpr ⟨⟨mw_62, 1, by decide, con_X4_tell hJ⟩, List.forall_mem_cons.mpr ⟨⟨mw_26, 0, by decide, con_X1_mayCross hJ⟩, List.forall_mem_cons.mpr ⟨⟨mw_31, 3, by decide, con_X1_makeCrossing hJ⟩, fun _ h => absurd h List.not_mem_nil⟩⟩⟩⟩⟩) ok_X4_cross
def tb_X4_go : List (Option ts_I) := [some (.iload_n 1, 1, 0, []), some (.iconst 1, 1, 0, []), some (.bipush 60, 60, 0, []), none, some (.invokestatic 60, 66, 3, [(1189, 9), (0, 0)]), none, none, some (.ifCond .ne 9, 16, 0, []), none, none, some (.aload_n 0, 0, 0, []), some (.iconst 0, 0, 0, []), some (.invokevirtual 48, 62, 2, [(1168, 3), (0, 0)]), none, none, some (.ireturn, 0, 0, []), some (.aload_n 0, 0, 0, []), some (.getfield 10, 3, 0, [(1139, 0)]), none, none, some (.getfield 125, 0, 2, [(1034, 0)]), none, none, some (.iload_n 1, 1, 0, []), some (.iadd, 0, 0, []), some (.ldc 129, 99999, 0, [(2082, 0)]), none, some (.if_icmp .le 9, 36, 0, []), none, none, some (.aload_n 0, 0, 0, []), some (.iconst 4, 4, 0, []), some (.invokevirtual 48, 62, 2, [(1168, 3), (0, 0)]), none, none, some (.ireturn, 0, 0, []), some (.aload_n 0, 0, 0, []), some (.getfield 10, 3, 0, [(1139, 0)]), none, none, some (.iload_n 1, 1, 0, []), some (.invokevirtual 130, 34, 2, [(2083, 0), (1, 0)]), none, none, some (.aload_n 0, 0, 0, []), some (.getfield 10, 3, 0, [(1139, 0)]), none, none, some (.getfield 134, 0, 1, [(1032, 0)]), none, none, some (.ireturn, 0, 0, [])]
noncomputable def E_X4_go : ts_E := fun z => if z = 66 then F_X4_isWithin else if z = 62 then F_X4_tell else if z = 34 then F_X1_passDays else fun _ _ => none
noncomputable def F_X4_go : List ts_V → ts_S → Option ts_A := ts_Fn E_X4_go tb_X4_go 2
set_option maxRecDepth 20000 in
theorem ok_X4_go : ts_tbo 5 ts_mi [66, 62, 34] (ts_mi 77).1.cls (ts_mi 77).2.2.2.1 (ts_mi 77).2.1 0 tb_X4_go = true := by decide +kernel
theorem con_X4_go {X : ts_X} {l : Launch} (hJ : ts_J X l) : ts_Met X l (ts_mi 77) 5 F_X4_go := ts_con (ts_mi 77) 5 (E := E_X4_go) (mi := ts_mi) (cs := [66, 62, 34]) (tb := tb_X4_go) (plainFor_of_name (by decide +kernel)) hJ.1 (List.forall_mem_cons.mpr ⟨⟨mw_66, 0, by decide, con_X4_isWithin hJ⟩, List.forall_mem_cons.mpr ⟨⟨mw_62, 1, by decide, con_X4_tell hJ⟩, List.forall_mem_cons.mpr ⟨⟨mw_34, 4, by decide, con_X1_passDays hJ⟩, fun _ h => absurd h List.not_mem_nil⟩⟩⟩) ok_X4_go
def tb_X4_now : List (Option ts_I) := [some (.iload_n 1, 1, 0, []), some (.tableswitch 111 0 7 #[47, 55, 63, 71, 79, 87, 95, 103], 112, 47, [(0, 48), (1, 56), (2, 64), (3, 72), (4, 80), (5, 88), (6, 96), (7, 104)]), none, none, none, none, none, none, none, none, none, none, none, none, none, none, none, none, none, none, none, none, none, none, none, none, none, none, none, none, none, none, none, none, none, none, none, none, none, none, none, none, none, none, none, none, none, none, some (.aload_n 0, 0, 0, []), some (.getfield 10, 3, 0, [(1139, 0)]), none, none, some (.getfield 125, 0, 2, [(1034, 0)]), none, none, some (.ireturn, 0, 0, []), some (.aload_n 0, 0, 0, []), some (.getfield 10, 3, 0, [(1139, 0)]), none, none, some (.getfield 134, 0, 1, [(1032, 0)]), none, none, some (.ireturn, 0, 0, []), some (.aload_n 0, 0, 0, []), some (.getfield 10, 3, 0, [(1139, 0)]), none, none, some (.invokevirtual 137, 36, 1, [(2099, 0), (0, 0)]), none, none, some (.ireturn, 0, 0, []), some (.aload_n 0, 0, 0, []), some (.getfield 10, 3, 0, [(1139, 0)]), none, none, some (.invokevirtual 141, 37, 1, [(2103, 0), (0, 0)]), none, none, some (.ireturn, 0, 0, []), some (.aload_n 0, 0, 0, []), some (.getfield 10, 3, 0, [(1139, 0)]), none, none, some (.invokevirtual 144, 38, 1, [(2107, 0), (0, 0)]), none, none, some (.ireturn, 0, 0, []), some (.aload_n 0, 0, 0, []), some (.getfield 10, 3, 0, [(1139, 0)]), none, none, some (.invokevirtual 147, 39, 1, [(2111, 0), (0, 0)]), none, none, some (.ireturn, 0, 0, []), some (.aload_n 0, 0, 0, []), some (.getfield 10, 3, 0, [(1139, 0)]), none, none, some (.invokevirtual 150, 40, 1, [(2115, 0), (0, 0)]), none, none, some (.ireturn, 0, 0, []), some (.aload_n 0, 0, 0, []), some (.getfield 10, 3, 0, [(1139, 0)]), none, none, some (.invokevirtual 153, 41, 1, [(2119, 0), (0, 0)]), none, none, some (.ireturn, 0, 0, []), some (.aload_n 0, 0, 0, []), some (.iconst 0, 0, 0, []), some (.invokevirtual 48, 62, 2, [(1168, 3), (0, 0)]), none, none, some (.ireturn, 0, 0, [])]
noncomputable def E_X4_now : ts_E := fun z => if z = 36 then F_X1_wordsHad else if z = 37 then F_X1_wordsKept else if z = 38 then F_X1_peopleInside else if z = 39 then F_X1_peopleWithoutWords else if z = 40 then F_X1_wearOfAll else if z = 41 then F_X1_keptInAll else if z = 62 then F_X4_tell else fun _ _ => none
noncomputable def F_X4_now : List ts_V → ts_S → Option ts_A := ts_Fn E_X4_now tb_X4_now 2
set_option maxRecDepth 20000 in
theorem ok_X4_now : ts_tbo 2 ts_mi [36, 37, 38, 39, 40, 41, 62] (ts_mi 78).1.cls (ts_mi 78).2.2.2.1 (ts_mi 78).2.1 0 tb_X4_now = true := by decide +kernel
theorem con_X4_now {X : ts_X} {l : Launch} (hJ : ts_J X l) : ts_Met X l (ts_mi 78) 2 F_X4_now := ts_con (ts_mi 78) 2 (E := E_X4_now) (mi := ts_mi) (cs := [36, 37, 38, 39, 40, 41, 62]) (tb := tb_X4_now) (plainFor_of_name (by decide +kernel)) hJ.1 (List.forall_mem_cons.mpr ⟨⟨mw_36, 0, by decide, con_X1_wordsHad hJ⟩, List.forall_mem_cons.mpr ⟨⟨mw_37, 1, by decide, con_X1_wordsKept hJ⟩, List.forall_mem_cons.mpr ⟨⟨mw_38, 0, by decide, con_X1_peopleInside hJ⟩, List.forall_mem_cons.mpr ⟨⟨mw_39, 0, by decide, con_X1_peopleWithoutWords hJ⟩, List.forall_mem_cons.mpr ⟨⟨mw_40, 0, by decide, con_X1_wearOfAll hJ⟩, List.forall_mem_cons.mpr ⟨⟨mw_41, 0, by decide, con_X1_keptInAll hJ⟩, List.forall_mem_cons.mpr ⟨⟨mw_62, 1, by decide, con_X4_tell hJ⟩, fun _ h => absurd h List.not_mem_nil⟩⟩⟩⟩⟩⟩⟩) ok_X4_now
def tb_X4_beginTrial : List (Option ts_I) := [some (.aload_n 0, 0, 0, []), some (.getfield 16, 3, 1, [(1140, 0)]), none, none, some (.aload_n 0, 0, 0, []), some (.getfield 10, 3, 0, [(1139, 0)]), none, none, some (.invokevirtual 210, 12, 2, [(2131, 0), (1, 0)]), none, none, some (.return_, 0, 0, [])]
noncomputable def E_X4_beginTrial : ts_E := fun z => if z = 12 then F_X1_become else fun _ _ => none
noncomputable def F_X4_beginTrial : List ts_V → ts_S → Option ts_A := ts_Fn E_X4_beginTrial tb_X4_beginTrial 1
set_option maxRecDepth 20000 in
theorem ok_X4_beginTrial : ts_tbo 2 ts_mi [12] (ts_mi 79).1.cls (ts_mi 79).2.2.2.1 (ts_mi 79).2.1 0 tb_X4_beginTrial = true := by decide +kernel
theorem con_X4_beginTrial {X : ts_X} {l : Launch} (hJ : ts_J X l) : ts_Met X l (ts_mi 79) 2 F_X4_beginTrial := ts_con (ts_mi 79) 2 (E := E_X4_beginTrial) (mi := ts_mi) (cs := [12]) (tb := tb_X4_beginTrial) (plainFor_of_name (by decide +kernel)) hJ.1 (List.forall_mem_cons.mpr ⟨⟨mw_12, 1, by decide, con_X1_become hJ⟩, fun _ h => absurd h List.not_mem_nil⟩) ok_X4_beginTrial
def tb_X4_ahead : List (Option ts_I) := [some (.iload_n 2, 2, 0, []), some (.iconst 1, 1, 0, []), some (.if_icmp .eq 19, 21, 0, []), none, none, some (.iload_n 2, 2, 0, []), some (.iconst 2, 2, 0, []), some (.if_icmp .eq 14, 21, 0, []), none, none, some (.iload_n 2, 2, 0, []), some (.iconst 5, 5, 0, []), some (.if_icmp .eq 9, 21, 0, []), none, none, some (.iload_n 2, 2, 0, []), some (.bipush 6, 6, 0, []), none, some (.if_icmp .ne 7, 25, 0, []), none, none, some (.iconst 1, 1, 0, []), some (.goto 4, 26, 0, []), none, none, some (.iconst 0, 0, 0, []), some (.istore 4, 4, 0, []), none, some (.aload_n 0, 0, 0, []), some (.getfield 10, 3, 0, [(1139, 0)]), none, none, some (.iload_n 1, 1, 0, []), some (.invokevirtual 67, 14, 2, [(1200, 0), (0, 0)]), none, none, some (.ifCond .eq 18, 54, 0, []), none, none, some (.iload 4, 4, 0, []), none, some (.ifCond .eq 13, 54, 0, []), none, none, some (.iload_n 3, 3, 0, []), some (.iconst 0, 0, 0, []), some (.bipush 100, 100, 0, []), none, some (.invokestatic 60, 66, 3, [(1189, 9), (0, 0)]), none, none, some (.ifCond .ne 9, 60, 0, []), none, none, some (.aload_n 0, 0, 0, []), some (.iconst 0, 0, 0, []), some (.invokevirtual 48, 62, 2, [(1168, 3), (0, 0)]), none, none, some (.ireturn, 0, 0, []), some (.aload_n 0, 0, 0, []), some (.invokevirtual 156, 79, 1, [(2127, 3), (1, 0)]), none, none, some (.aload_n 0, 0, 0, []), some (.getfield 16, 3, 1, [(1140, 0)]), none, none, some (.iload_n 3, 3, 0, []), some (.invokevirtual 130, 34, 2, [(2083, 0), (1, 0)]), none, none, some (.aload_n 0, 0, 0, []), some (.getfield 16, 3, 1, [(1140, 0)]), none, none, some (.iload_n 1, 1, 0, []), some (.iload_n 2, 2, 0, []), some (.invokevirtual 71, 24, 3, [(1205, 0), (0, 0)]), none, none, some (.ireturn, 0, 0, [])]
noncomputable def E_X4_ahead : ts_E := fun z => if z = 14 then F_X1_isSill else if z = 66 then F_X4_isWithin else if z = 62 then F_X4_tell else if z = 79 then F_X4_beginTrial else if z = 34 then F_X1_passDays else if z = 24 then F_X1_tellSill else fun _ _ => none
noncomputable def F_X4_ahead : List ts_V → ts_S → Option ts_A := ts_Fn E_X4_ahead tb_X4_ahead 5
set_option maxRecDepth 20000 in
theorem ok_X4_ahead : ts_tbo 5 ts_mi [14, 66, 62, 79, 34, 24] (ts_mi 80).1.cls (ts_mi 80).2.2.2.1 (ts_mi 80).2.1 0 tb_X4_ahead = true := by decide +kernel
theorem con_X4_ahead {X : ts_X} {l : Launch} (hJ : ts_J X l) : ts_Met X l (ts_mi 80) 5 F_X4_ahead := ts_con (ts_mi 80) 5 (E := E_X4_ahead) (mi := ts_mi) (cs := [14, 66, 62, 79, 34, 24]) (tb := tb_X4_ahead) (plainFor_of_name (by decide +kernel)) hJ.1 (List.forall_mem_cons.mpr ⟨⟨mw_14, 1, by decide, con_X1_isSill hJ⟩, List.forall_mem_cons.mpr ⟨⟨mw_66, 0, by decide, con_X4_isWithin hJ⟩, List.forall_mem_cons.mpr ⟨⟨mw_62, 1, by decide, con_X4_tell hJ⟩, List.forall_mem_cons.mpr ⟨⟨mw_79, 2, by decide, con_X4_beginTrial hJ⟩, List.forall_mem_cons.mpr ⟨⟨mw_34, 4, by decide, con_X1_passDays hJ⟩, List.forall_mem_cons.mpr ⟨⟨mw_24, 2, by decide, con_X1_tellSill hJ⟩, fun _ h => absurd h List.not_mem_nil⟩⟩⟩⟩⟩⟩) ok_X4_ahead
def tb_X4_later : List (Option ts_I) := [some (.aload_n 0, 0, 0, []), some (.getfield 10, 3, 0, [(1139, 0)]), none, none, some (.iload_n 1, 1, 0, []), some (.invokevirtual 97, 15, 2, [(2011, 0), (0, 0)]), none, none, some (.ifCond .eq 22, 30, 0, []), none, none, some (.iload_n 2, 2, 0, []), some (.iconst 0, 0, 0, []), some (.iconst 2, 2, 0, []), some (.invokestatic 60, 66, 3, [(1189, 9), (0, 0)]), none, none, some (.ifCond .eq 13, 30, 0, []), none, none, some (.iload_n 3, 3, 0, []), some (.iconst 0, 0, 0, []), some (.bipush 100, 100, 0, []), none, some (.invokestatic 60, 66, 3, [(1189, 9), (0, 0)]), none, none, some (.ifCond .ne 9, 36, 0, []), none, none, some (.aload_n 0, 0, 0, []), some (.iconst 0, 0, 0, []), some (.invokevirtual 48, 62, 2, [(1168, 3), (0, 0)]), none, none, some (.ireturn, 0, 0, []), some (.aload_n 0, 0, 0, []), some (.invokevirtual 156, 79, 1, [(2127, 3), (1, 0)]), none, none, some (.aload_n 0, 0, 0, []), some (.getfield 16, 3, 1, [(1140, 0)]), none, none, some (.iload_n 3, 3, 0, []), some (.invokevirtual 130, 34, 2, [(2083, 0), (1, 0)]), none, none, some (.aload_n 0, 0, 0, []), some (.getfield 16, 3, 1, [(1140, 0)]), none, none, some (.iload_n 1, 1, 0, []), some (.iload_n 2, 2, 0, []), some (.invokevirtual 100, 25, 3, [(2015, 0), (0, 0)]), none, none, some (.ireturn, 0, 0, [])]
noncomputable def E_X4_later : ts_E := fun z => if z = 15 then F_X1_isPerson else if z = 66 then F_X4_isWithin else if z = 62 then F_X4_tell else if z = 79 then F_X4_beginTrial else if z = 34 then F_X1_passDays else if z = 25 then F_X1_tellPerson else fun _ _ => none
noncomputable def F_X4_later : List ts_V → ts_S → Option ts_A := ts_Fn E_X4_later tb_X4_later 4
set_option maxRecDepth 20000 in
theorem ok_X4_later : ts_tbo 5 ts_mi [15, 66, 62, 79, 34, 25] (ts_mi 81).1.cls (ts_mi 81).2.2.2.1 (ts_mi 81).2.1 0 tb_X4_later = true := by decide +kernel
theorem con_X4_later {X : ts_X} {l : Launch} (hJ : ts_J X l) : ts_Met X l (ts_mi 81) 5 F_X4_later := ts_con (ts_mi 81) 5 (E := E_X4_later) (mi := ts_mi) (cs := [15, 66, 62, 79, 34, 25]) (tb := tb_X4_later) (plainFor_of_name (by decide +kernel)) hJ.1 (List.forall_mem_cons.mpr ⟨⟨mw_15, 1, by decide, con_X1_isPerson hJ⟩, List.forall_mem_cons.mpr ⟨⟨mw_66, 0, by decide, con_X4_isWithin hJ⟩, List.forall_mem_cons.mpr ⟨⟨mw_62, 1, by decide, con_X4_tell hJ⟩, List.forall_mem_cons.mpr ⟨⟨mw_79, 2, by decide, con_X4_beginTrial hJ⟩, List.forall_mem_cons.mpr ⟨⟨mw_34, 4, by decide, con_X1_passDays hJ⟩, List.forall_mem_cons.mpr ⟨⟨mw_25, 0, by decide, con_X1_tellPerson hJ⟩, fun _ h => absurd h List.not_mem_nil⟩⟩⟩⟩⟩⟩) ok_X4_later
def tb_X4_hears : List (Option ts_I) := [some (.aload_n 0, 0, 0, []), some (.getfield 10, 3, 0, [(1139, 0)]), none, none, some (.iload_n 1, 1, 0, []), some (.invokevirtual 97, 15, 2, [(2011, 0), (0, 0)]), none, none, some (.ifCond .eq 12, 20, 0, []), none, none, some (.iload_n 2, 2, 0, []), some (.bipush 12, 12, 0, []), none, some (.invokestatic 44, 13, 2, [(1165, 9), (0, 0)]), none, none, some (.ifCond .ne 9, 26, 0, []), none, none, some (.aload_n 0, 0, 0, []), some (.iconst 0, 0, 0, []), some (.invokevirtual 48, 62, 2, [(1168, 3), (0, 0)]), none, none, some (.ireturn, 0, 0, []), some (.aload_n 0, 0, 0, []), some (.invokevirtual 156, 79, 1, [(2127, 3), (1, 0)]), none, none, some (.iconst 0, 0, 0, []), some (.istore_n 3, 3, 0, []), some (.iload_n 3, 3, 0, []), some (.sipush 200, 200, 0, []), none, none, some (.if_icmp .gt 31, 67, 0, []), none, none, some (.aload_n 0, 0, 0, []), some (.getfield 16, 3, 1, [(1140, 0)]), none, none, some (.iload_n 1, 1, 0, []), some (.iload_n 2, 2, 0, []), some (.invokevirtual 159, 16, 3, [(2146, 0), (0, 0)]), none, none, some (.ifCond .eq 5, 53, 0, []), none, none, some (.iload_n 3, 3, 0, []), some (.ireturn, 0, 0, []), some (.aload_n 0, 0, 0, []), some (.getfield 16, 3, 1, [(1140, 0)]), none, none, some (.iconst 1, 1, 0, []), some (.invokevirtual 130, 34, 2, [(2083, 0), (1, 0)]), none, none, some (.iinc 3 1, 3, 1, []), none, none, some (.goto (-32), 32, 0, []), none, none, some (.aload_n 0, 0, 0, []), some (.iconst 3, 3, 0, []), some (.invokevirtual 48, 62, 2, [(1168, 3), (0, 0)]), none, none, some (.ireturn, 0, 0, [])]
noncomputable def E_X4_hears : ts_E := fun z => if z = 15 then F_X1_isPerson else if z = 13 then F_X4_isBelow else if z = 62 then F_X4_tell else if z = 79 then F_X4_beginTrial else if z = 16 then F_X1_hasWord else if z = 34 then F_X1_passDays else fun _ _ => none
noncomputable def F_X4_hears : List ts_V → ts_S → Option ts_A := ts_Fn E_X4_hears tb_X4_hears 4
set_option maxRecDepth 20000 in
theorem ok_X4_hears : ts_tbo 5 ts_mi [15, 13, 62, 79, 16, 34] (ts_mi 82).1.cls (ts_mi 82).2.2.2.1 (ts_mi 82).2.1 0 tb_X4_hears = true := by decide +kernel
theorem con_X4_hears {X : ts_X} {l : Launch} (hJ : ts_J X l) : ts_Met X l (ts_mi 82) 5 F_X4_hears := ts_con (ts_mi 82) 5 (E := E_X4_hears) (mi := ts_mi) (cs := [15, 13, 62, 79, 16, 34]) (tb := tb_X4_hears) (plainFor_of_name (by decide +kernel)) hJ.1 (List.forall_mem_cons.mpr ⟨⟨mw_15, 1, by decide, con_X1_isPerson hJ⟩, List.forall_mem_cons.mpr ⟨⟨mw_13, 0, by decide, con_X4_isBelow hJ⟩, List.forall_mem_cons.mpr ⟨⟨mw_62, 1, by decide, con_X4_tell hJ⟩, List.forall_mem_cons.mpr ⟨⟨mw_79, 2, by decide, con_X4_beginTrial hJ⟩, List.forall_mem_cons.mpr ⟨⟨mw_16, 0, by decide, con_X1_hasWord hJ⟩, List.forall_mem_cons.mpr ⟨⟨mw_34, 4, by decide, con_X1_passDays hJ⟩, fun _ h => absurd h List.not_mem_nil⟩⟩⟩⟩⟩⟩) ok_X4_hears
def tb_X4_waste : List (Option ts_I) := [some (.iload_n 1, 1, 0, []), some (.iconst 0, 0, 0, []), some (.ldc 129, 99999, 0, [(2082, 0)]), none, some (.invokestatic 60, 66, 3, [(1189, 9), (0, 0)]), none, none, some (.ifCond .ne 9, 16, 0, []), none, none, some (.aload_n 0, 0, 0, []), some (.iconst 0, 0, 0, []), some (.invokevirtual 48, 62, 2, [(1168, 3), (0, 0)]), none, none, some (.ireturn, 0, 0, []), some (.aload_n 0, 0, 0, []), some (.invokevirtual 156, 79, 1, [(2127, 3), (1, 0)]), none, none, some (.iconst 0, 0, 0, []), some (.istore_n 2, 2, 0, []), some (.iload_n 2, 2, 0, []), some (.sipush 200, 200, 0, []), none, none, some (.if_icmp .gt 30, 56, 0, []), none, none, some (.aload_n 0, 0, 0, []), some (.getfield 16, 3, 1, [(1140, 0)]), none, none, some (.getfield 134, 0, 1, [(1032, 0)]), none, none, some (.iload_n 1, 1, 0, []), some (.if_icmp .lt 5, 42, 0, []), none, none, some (.iload_n 2, 2, 0, []), some (.ireturn, 0, 0, []), some (.aload_n 0, 0, 0, []), some (.getfield 16, 3, 1, [(1140, 0)]), none, none, some (.iconst 1, 1, 0, []), some (.invokevirtual 130, 34, 2, [(2083, 0), (1, 0)]), none, none, some (.iinc 2 1, 2, 1, []), none, none, some (.goto (-31), 22, 0, []), none, none, some (.aload_n 0, 0, 0, []), some (.iconst 3, 3, 0, []), some (.invokevirtual 48, 62, 2, [(1168, 3), (0, 0)]), none, none, some (.ireturn, 0, 0, [])]
noncomputable def E_X4_waste : ts_E := fun z => if z = 66 then F_X4_isWithin else if z = 62 then F_X4_tell else if z = 79 then F_X4_beginTrial else if z = 34 then F_X1_passDays else fun _ _ => none
noncomputable def F_X4_waste : List ts_V → ts_S → Option ts_A := ts_Fn E_X4_waste tb_X4_waste 3
set_option maxRecDepth 20000 in
theorem ok_X4_waste : ts_tbo 5 ts_mi [66, 62, 79, 34] (ts_mi 83).1.cls (ts_mi 83).2.2.2.1 (ts_mi 83).2.1 0 tb_X4_waste = true := by decide +kernel
theorem con_X4_waste {X : ts_X} {l : Launch} (hJ : ts_J X l) : ts_Met X l (ts_mi 83) 5 F_X4_waste := ts_con (ts_mi 83) 5 (E := E_X4_waste) (mi := ts_mi) (cs := [66, 62, 79, 34]) (tb := tb_X4_waste) (plainFor_of_name (by decide +kernel)) hJ.1 (List.forall_mem_cons.mpr ⟨⟨mw_66, 0, by decide, con_X4_isWithin hJ⟩, List.forall_mem_cons.mpr ⟨⟨mw_62, 1, by decide, con_X4_tell hJ⟩, List.forall_mem_cons.mpr ⟨⟨mw_79, 2, by decide, con_X4_beginTrial hJ⟩, List.forall_mem_cons.mpr ⟨⟨mw_34, 4, by decide, con_X1_passDays hJ⟩, fun _ h => absurd h List.not_mem_nil⟩⟩⟩⟩) ok_X4_waste
def tb_X4_mute : List (Option ts_I) := [some (.aload_n 0, 0, 0, []), some (.getfield 10, 3, 0, [(1139, 0)]), none, none, some (.iload_n 1, 1, 0, []), some (.invokevirtual 97, 15, 2, [(2011, 0), (0, 0)]), none, none, some (.ifCond .ne 9, 17, 0, []), none, none, some (.aload_n 0, 0, 0, []), some (.iconst 0, 0, 0, []), some (.invokevirtual 48, 62, 2, [(1168, 3), (0, 0)]), none, none, some (.ireturn, 0, 0, []), some (.aload_n 0, 0, 0, []), some (.invokevirtual 156, 79, 1, [(2127, 3), (1, 0)]), none, none, some (.iconst 0, 0, 0, []), some (.istore_n 2, 2, 0, []), some (.iload_n 2, 2, 0, []), some (.sipush 200, 200, 0, []), none, none, some (.if_icmp .gt 31, 58, 0, []), none, none, some (.aload_n 0, 0, 0, []), some (.getfield 16, 3, 1, [(1140, 0)]), none, none, some (.getfield 103, 0, 11, [(1055, 0)]), none, none, some (.iload_n 1, 1, 0, []), some (.iaload, 0, 0, []), some (.ifCond .ne 5, 44, 0, []), none, none, some (.iload_n 2, 2, 0, []), some (.ireturn, 0, 0, []), some (.aload_n 0, 0, 0, []), some (.getfield 16, 3, 1, [(1140, 0)]), none, none, some (.iconst 1, 1, 0, []), some (.invokevirtual 130, 34, 2, [(2083, 0), (1, 0)]), none, none, some (.iinc 2 1, 2, 1, []), none, none, some (.goto (-32), 23, 0, []), none, none, some (.aload_n 0, 0, 0, []), some (.iconst 3, 3, 0, []), some (.invokevirtual 48, 62, 2, [(1168, 3), (0, 0)]), none, none, some (.ireturn, 0, 0, [])]
noncomputable def E_X4_mute : ts_E := fun z => if z = 15 then F_X1_isPerson else if z = 62 then F_X4_tell else if z = 79 then F_X4_beginTrial else if z = 34 then F_X1_passDays else fun _ _ => none
noncomputable def F_X4_mute : List ts_V → ts_S → Option ts_A := ts_Fn E_X4_mute tb_X4_mute 3
set_option maxRecDepth 20000 in
theorem ok_X4_mute : ts_tbo 5 ts_mi [15, 62, 79, 34] (ts_mi 84).1.cls (ts_mi 84).2.2.2.1 (ts_mi 84).2.1 0 tb_X4_mute = true := by decide +kernel
theorem con_X4_mute {X : ts_X} {l : Launch} (hJ : ts_J X l) : ts_Met X l (ts_mi 84) 5 F_X4_mute := ts_con (ts_mi 84) 5 (E := E_X4_mute) (mi := ts_mi) (cs := [15, 62, 79, 34]) (tb := tb_X4_mute) (plainFor_of_name (by decide +kernel)) hJ.1 (List.forall_mem_cons.mpr ⟨⟨mw_15, 1, by decide, con_X1_isPerson hJ⟩, List.forall_mem_cons.mpr ⟨⟨mw_62, 1, by decide, con_X4_tell hJ⟩, List.forall_mem_cons.mpr ⟨⟨mw_79, 2, by decide, con_X4_beginTrial hJ⟩, List.forall_mem_cons.mpr ⟨⟨mw_34, 4, by decide, con_X1_passDays hJ⟩, fun _ h => absurd h List.not_mem_nil⟩⟩⟩⟩) ok_X4_mute
def tb_X4_sillFor : List (Option ts_I) := [some (.iload_n 1, 1, 0, []), some (.bipush 6, 6, 0, []), none, some (.invokestatic 44, 13, 2, [(1165, 9), (0, 0)]), none, none, some (.ifCond .eq 13, 19, 0, []), none, none, some (.iload_n 2, 2, 0, []), some (.iconst 0, 0, 0, []), some (.bipush 60, 60, 0, []), none, some (.invokestatic 60, 66, 3, [(1189, 9), (0, 0)]), none, none, some (.ifCond .ne 9, 25, 0, []), none, none, some (.aload_n 0, 0, 0, []), some (.iconst 0, 0, 0, []), some (.invokevirtual 48, 62, 2, [(1168, 3), (0, 0)]), none, none, some (.ireturn, 0, 0, []), some (.aload_n 0, 0, 0, []), some (.getfield 10, 3, 0, [(1139, 0)]), none, none, some (.getfield 52, 0, 0, [(1029, 0)]), none, none, some (.iload_n 1, 1, 0, []), some (.iaload, 0, 0, []), some (.bipush 10, 10, 0, []), none, some (.idiv, 0, 0, []), some (.istore_n 3, 3, 0, []), some (.iconst 0, 0, 0, []), some (.istore 4, 4, 0, []), none, some (.ldc 162, 100000, 0, [(2159, 0)]), none, some (.istore 5, 5, 0, []), none, some (.iconst 0, 0, 0, []), some (.istore 6, 6, 0, []), none, some (.iload 6, 6, 0, []), none, some (.bipush 8, 8, 0, []), none, some (.if_icmp .ge 62, 114, 0, []), none, none, some (.aload_n 0, 0, 0, []), some (.invokevirtual 156, 79, 1, [(2127, 3), (1, 0)]), none, none, some (.aload_n 0, 0, 0, []), some (.getfield 16, 3, 1, [(1140, 0)]), none, none, some (.getfield 52, 0, 0, [(1029, 0)]), none, none, some (.iload_n 1, 1, 0, []), some (.bipush 10, 10, 0, []), none, some (.iload_n 3, 3, 0, []), some (.imul, 0, 0, []), some (.iload 6, 6, 0, []), none, some (.iadd, 0, 0, []), some (.iastore, 0, 0, []), some (.aload_n 0, 0, 0, []), some (.getfield 16, 3, 1, [(1140, 0)]), none, none, some (.iload_n 2, 2, 0, []), some (.invokevirtual 130, 34, 2, [(2083, 0), (1, 0)]), none, none, some (.aload_n 0, 0, 0, []), some (.getfield 16, 3, 1, [(1140, 0)]), none, none, some (.getfield 134, 0, 1, [(1032, 0)]), none, none, some (.iload 5, 5, 0, []), none, some (.if_icmp .ge 16, 108, 0, []), none, none, some (.aload_n 0, 0, 0, []), some (.getfield 16, 3, 1, [(1140, 0)]), none, none, some (.getfield 134, 0, 1, [(1032, 0)]), none, none, some (.istore 5, 5, 0, []), none, some (.iload 6, 6, 0, []), none, some (.istore 4, 4, 0, []), none, some (.iinc 6 1, 6, 1, []), none, none, some (.goto (-63), 48, 0, []), none, none, some (.iload 4, 4, 0, []), none, some (.ireturn, 0, 0, [])]
noncomputable def E_X4_sillFor : ts_E := fun z => if z = 13 then F_X4_isBelow else if z = 66 then F_X4_isWithin else if z = 62 then F_X4_tell else if z = 79 then F_X4_beginTrial else if z = 34 then F_X1_passDays else fun _ _ => none
noncomputable def F_X4_sillFor : List ts_V → ts_S → Option ts_A := ts_Fn E_X4_sillFor tb_X4_sillFor 7
set_option maxRecDepth 20000 in
theorem ok_X4_sillFor : ts_tbo 5 ts_mi [13, 66, 62, 79, 34] (ts_mi 85).1.cls (ts_mi 85).2.2.2.1 (ts_mi 85).2.1 0 tb_X4_sillFor = true := by decide +kernel
theorem con_X4_sillFor {X : ts_X} {l : Launch} (hJ : ts_J X l) : ts_Met X l (ts_mi 85) 5 F_X4_sillFor := ts_con (ts_mi 85) 5 (E := E_X4_sillFor) (mi := ts_mi) (cs := [13, 66, 62, 79, 34]) (tb := tb_X4_sillFor) (plainFor_of_name (by decide +kernel)) hJ.1 (List.forall_mem_cons.mpr ⟨⟨mw_13, 0, by decide, con_X4_isBelow hJ⟩, List.forall_mem_cons.mpr ⟨⟨mw_66, 0, by decide, con_X4_isWithin hJ⟩, List.forall_mem_cons.mpr ⟨⟨mw_62, 1, by decide, con_X4_tell hJ⟩, List.forall_mem_cons.mpr ⟨⟨mw_79, 2, by decide, con_X4_beginTrial hJ⟩, List.forall_mem_cons.mpr ⟨⟨mw_34, 4, by decide, con_X1_passDays hJ⟩, fun _ h => absurd h List.not_mem_nil⟩⟩⟩⟩⟩) ok_X4_sillFor
def tb_X4_kindFor : List (Option ts_I) := [some (.aload_n 0, 0, 0, []), some (.getfield 10, 3, 0, [(1139, 0)]), none, none, some (.iload_n 1, 1, 0, []), some (.invokevirtual 67, 14, 2, [(1200, 0), (0, 0)]), none, none, some (.ifCond .eq 13, 21, 0, []), none, none, some (.iload_n 2, 2, 0, []), some (.iconst 0, 0, 0, []), some (.bipush 60, 60, 0, []), none, some (.invokestatic 60, 66, 3, [(1189, 9), (0, 0)]), none, none, some (.ifCond .ne 9, 27, 0, []), none, none, some (.aload_n 0, 0, 0, []), some (.iconst 0, 0, 0, []), some (.invokevirtual 48, 62, 2, [(1168, 3), (0, 0)]), none, none, some (.ireturn, 0, 0, []), some (.iconst 0, 0, 0, []), some (.istore_n 3, 3, 0, []), some (.ldc 162, 100000, 0, [(2159, 0)]), none, some (.istore 4, 4, 0, []), none, some (.iconst 0, 0, 0, []), some (.istore 5, 5, 0, []), none, some (.iload 5, 5, 0, []), none, some (.bipush 7, 7, 0, []), none, some (.if_icmp .ge 56, 96, 0, []), none, none, some (.aload_n 0, 0, 0, []), some (.invokevirtual 156, 79, 1, [(2127, 3), (1, 0)]), none, none, some (.aload_n 0, 0, 0, []), some (.getfield 16, 3, 1, [(1140, 0)]), none, none, some (.getfield 78, 0, 5, [(1041, 0)]), none, none, some (.iload_n 1, 1, 0, []), some (.iload 5, 5, 0, []), none, some (.iastore, 0, 0, []), some (.aload_n 0, 0, 0, []), some (.getfield 16, 3, 1, [(1140, 0)]), none, none, some (.iload_n 2, 2, 0, []), some (.invokevirtual 130, 34, 2, [(2083, 0), (1, 0)]), none, none, some (.aload_n 0, 0, 0, []), some (.getfield 16, 3, 1, [(1140, 0)]), none, none, some (.getfield 134, 0, 1, [(1032, 0)]), none, none, some (.iload 4, 4, 0, []), none, some (.if_icmp .ge 15, 90, 0, []), none, none, some (.aload_n 0, 0, 0, []), some (.getfield 16, 3, 1, [(1140, 0)]), none, none, some (.getfield 134, 0, 1, [(1032, 0)]), none, none, some (.istore 4, 4, 0, []), none, some (.iload 5, 5, 0, []), none, some (.istore_n 3, 3, 0, []), some (.iinc 5 1, 5, 1, []), none, none, some (.goto (-57), 36, 0, []), none, none, some (.iload_n 3, 3, 0, []), some (.ireturn, 0, 0, [])]
noncomputable def E_X4_kindFor : ts_E := fun z => if z = 14 then F_X1_isSill else if z = 66 then F_X4_isWithin else if z = 62 then F_X4_tell else if z = 79 then F_X4_beginTrial else if z = 34 then F_X1_passDays else fun _ _ => none
noncomputable def F_X4_kindFor : List ts_V → ts_S → Option ts_A := ts_Fn E_X4_kindFor tb_X4_kindFor 6
set_option maxRecDepth 20000 in
theorem ok_X4_kindFor : ts_tbo 5 ts_mi [14, 66, 62, 79, 34] (ts_mi 86).1.cls (ts_mi 86).2.2.2.1 (ts_mi 86).2.1 0 tb_X4_kindFor = true := by decide +kernel
theorem con_X4_kindFor {X : ts_X} {l : Launch} (hJ : ts_J X l) : ts_Met X l (ts_mi 86) 5 F_X4_kindFor := ts_con (ts_mi 86) 5 (E := E_X4_kindFor) (mi := ts_mi) (cs := [14, 66, 62, 79, 34]) (tb := tb_X4_kindFor) (plainFor_of_name (by decide +kernel)) hJ.1 (List.forall_mem_cons.mpr ⟨⟨mw_14, 1, by decide, con_X1_isSill hJ⟩, List.forall_mem_cons.mpr ⟨⟨mw_66, 0, by decide, con_X4_isWithin hJ⟩, List.forall_mem_cons.mpr ⟨⟨mw_62, 1, by decide, con_X4_tell hJ⟩, List.forall_mem_cons.mpr ⟨⟨mw_79, 2, by decide, con_X4_beginTrial hJ⟩, List.forall_mem_cons.mpr ⟨⟨mw_34, 4, by decide, con_X1_passDays hJ⟩, fun _ h => absurd h List.not_mem_nil⟩⟩⟩⟩⟩) ok_X4_kindFor
def tb_X4_wordFor : List (Option ts_I) := [some (.aload_n 0, 0, 0, []), some (.getfield 10, 3, 0, [(1139, 0)]), none, none, some (.iload_n 1, 1, 0, []), some (.invokevirtual 97, 15, 2, [(2011, 0), (0, 0)]), none, none, some (.ifCond .eq 29, 37, 0, []), none, none, some (.aload_n 0, 0, 0, []), some (.getfield 10, 3, 0, [(1139, 0)]), none, none, some (.iload_n 2, 2, 0, []), some (.invokevirtual 97, 15, 2, [(2011, 0), (0, 0)]), none, none, some (.ifCond .eq 18, 37, 0, []), none, none, some (.iload_n 1, 1, 0, []), some (.iload_n 2, 2, 0, []), some (.if_icmp .eq 13, 37, 0, []), none, none, some (.iload_n 3, 3, 0, []), some (.iconst 0, 0, 0, []), some (.bipush 60, 60, 0, []), none, some (.invokestatic 60, 66, 3, [(1189, 9), (0, 0)]), none, none, some (.ifCond .ne 9, 43, 0, []), none, none, some (.aload_n 0, 0, 0, []), some (.iconst 0, 0, 0, []), some (.invokevirtual 48, 62, 2, [(1168, 3), (0, 0)]), none, none, some (.ireturn, 0, 0, []), some (.iconst 0, 0, 0, []), some (.istore 4, 4, 0, []), none, some (.iload 4, 4, 0, []), none, some (.bipush 12, 12, 0, []), none, some (.if_icmp .ge 63, 113, 0, []), none, none, some (.aload_n 0, 0, 0, []), some (.getfield 10, 3, 0, [(1139, 0)]), none, none, some (.iload_n 2, 2, 0, []), some (.iload 4, 4, 0, []), none, some (.invokevirtual 159, 16, 3, [(2146, 0), (0, 0)]), none, none, some (.ifCond .ne 44, 107, 0, []), none, none, some (.aload_n 0, 0, 0, []), some (.invokevirtual 156, 79, 1, [(2127, 3), (1, 0)]), none, none, some (.aload_n 0, 0, 0, []), some (.getfield 16, 3, 1, [(1140, 0)]), none, none, some (.getfield 103, 0, 11, [(1055, 0)]), none, none, some (.iload_n 1, 1, 0, []), some (.iconst 1, 1, 0, []), some (.iload 4, 4, 0, []), none, some (.ishl, 0, 0, []), some (.iastore, 0, 0, []), some (.aload_n 0, 0, 0, []), some (.getfield 16, 3, 1, [(1140, 0)]), none, none, some (.iload_n 3, 3, 0, []), some (.invokevirtual 130, 34, 2, [(2083, 0), (1, 0)]), none, none, some (.aload_n 0, 0, 0, []), some (.getfield 16, 3, 1, [(1140, 0)]), none, none, some (.iload_n 2, 2, 0, []), some (.iload 4, 4, 0, []), none, some (.invokevirtual 159, 16, 3, [(2146, 0), (0, 0)]), none, none, some (.ifCond .eq 6, 107, 0, []), none, none, some (.iload 4, 4, 0, []), none, some (.ireturn, 0, 0, []), some (.iinc 4 1, 4, 1, []), none, none, some (.goto (-64), 46, 0, []), none, none, some (.aload_n 0, 0, 0, []), some (.iconst 3, 3, 0, []), some (.invokevirtual 48, 62, 2, [(1168, 3), (0, 0)]), none, none, some (.ireturn, 0, 0, [])]
noncomputable def E_X4_wordFor : ts_E := fun z => if z = 15 then F_X1_isPerson else if z = 66 then F_X4_isWithin else if z = 62 then F_X4_tell else if z = 16 then F_X1_hasWord else if z = 79 then F_X4_beginTrial else if z = 34 then F_X1_passDays else fun _ _ => none
noncomputable def F_X4_wordFor : List ts_V → ts_S → Option ts_A := ts_Fn E_X4_wordFor tb_X4_wordFor 5
set_option maxRecDepth 20000 in
theorem ok_X4_wordFor : ts_tbo 5 ts_mi [15, 66, 62, 16, 79, 34] (ts_mi 87).1.cls (ts_mi 87).2.2.2.1 (ts_mi 87).2.1 0 tb_X4_wordFor = true := by decide +kernel
theorem con_X4_wordFor {X : ts_X} {l : Launch} (hJ : ts_J X l) : ts_Met X l (ts_mi 87) 5 F_X4_wordFor := ts_con (ts_mi 87) 5 (E := E_X4_wordFor) (mi := ts_mi) (cs := [15, 66, 62, 16, 79, 34]) (tb := tb_X4_wordFor) (plainFor_of_name (by decide +kernel)) hJ.1 (List.forall_mem_cons.mpr ⟨⟨mw_15, 1, by decide, con_X1_isPerson hJ⟩, List.forall_mem_cons.mpr ⟨⟨mw_66, 0, by decide, con_X4_isWithin hJ⟩, List.forall_mem_cons.mpr ⟨⟨mw_62, 1, by decide, con_X4_tell hJ⟩, List.forall_mem_cons.mpr ⟨⟨mw_16, 0, by decide, con_X1_hasWord hJ⟩, List.forall_mem_cons.mpr ⟨⟨mw_79, 2, by decide, con_X4_beginTrial hJ⟩, List.forall_mem_cons.mpr ⟨⟨mw_34, 4, by decide, con_X1_passDays hJ⟩, fun _ h => absurd h List.not_mem_nil⟩⟩⟩⟩⟩⟩) ok_X4_wordFor
def tb_J6_bitCount_0f7a4 : List (Option ts_I) := [some (.iload_n 0, 0, 0, []), some (.iload_n 0, 0, 0, []), some (.iconst 1, 1, 0, []), some (.iushr, 0, 0, []), some (.ldc_w 265, 1431655765, 0, [(2175, 0)]), none, none, some (.iand, 0, 0, []), some (.isub, 0, 0, []), some (.istore_n 0, 0, 0, []), some (.iload_n 0, 0, 0, []), some (.ldc_w 266, 858993459, 0, [(2176, 0)]), none, none, some (.iand, 0, 0, []), some (.iload_n 0, 0, 0, []), some (.iconst 2, 2, 0, []), some (.iushr, 0, 0, []), some (.ldc_w 266, 858993459, 0, [(2176, 0)]), none, none, some (.iand, 0, 0, []), some (.iadd, 0, 0, []), some (.istore_n 0, 0, 0, []), some (.iload_n 0, 0, 0, []), some (.iload_n 0, 0, 0, []), some (.iconst 4, 4, 0, []), some (.iushr, 0, 0, []), some (.iadd, 0, 0, []), some (.ldc_w 267, 252645135, 0, [(2177, 0)]), none, none, some (.iand, 0, 0, []), some (.istore_n 0, 0, 0, []), some (.iload_n 0, 0, 0, []), some (.iload_n 0, 0, 0, []), some (.bipush 8, 8, 0, []), none, some (.iushr, 0, 0, []), some (.iadd, 0, 0, []), some (.istore_n 0, 0, 0, []), some (.iload_n 0, 0, 0, []), some (.iload_n 0, 0, 0, []), some (.bipush 16, 16, 0, []), none, some (.iushr, 0, 0, []), some (.iadd, 0, 0, []), some (.istore_n 0, 0, 0, []), some (.iload_n 0, 0, 0, []), some (.bipush 63, 63, 0, []), none, some (.iand, 0, 0, []), some (.ireturn, 0, 0, [])]
noncomputable def E_J6_bitCount_0f7a4 : ts_E := fun _ _ _ => none
noncomputable def F_J6_bitCount_0f7a4 : List ts_V → ts_S → Option ts_A := ts_Fn E_J6_bitCount_0f7a4 tb_J6_bitCount_0f7a4 1
set_option maxRecDepth 20000 in
theorem ok_J6_bitCount_0f7a4 : ts_tbo 0 ts_mi [] (ts_mi 88).1.cls (ts_mi 88).2.2.2.1 (ts_mi 88).2.1 0 tb_J6_bitCount_0f7a4 = true := by decide +kernel
theorem con_J6_bitCount_0f7a4 {X : ts_X} {l : Launch} (hJ : ts_J X l) : ts_Met X l (ts_mi 88) 0 F_J6_bitCount_0f7a4 := ts_con (ts_mi 88) 0 (E := E_J6_bitCount_0f7a4) (mi := ts_mi) (cs := []) (tb := tb_J6_bitCount_0f7a4) (plainFor_of_name (by decide +kernel)) hJ.1 (fun _ h => absurd h List.not_mem_nil) ok_J6_bitCount_0f7a4
def tb_X4_hasWhenMended : List (Option ts_I) := [some (.aload_n 0, 0, 0, []), some (.invokevirtual 156, 79, 1, [(2127, 3), (1, 0)]), none, none, some (.iconst 0, 0, 0, []), some (.istore 5, 5, 0, []), none, some (.iload 5, 5, 0, []), none, some (.aload_n 0, 0, 0, []), some (.getfield 16, 3, 1, [(1140, 0)]), none, none, some (.getfield 163, 0, 4, [(1039, 0)]), none, none, some (.if_icmp .ge 30, 46, 0, []), none, none, some (.iload 4, 4, 0, []), none, some (.iload 5, 5, 0, []), none, some (.ishr, 0, 0, []), some (.iconst 1, 1, 0, []), some (.iand, 0, 0, []), some (.ifCond .eq 14, 40, 0, []), none, none, some (.aload_n 0, 0, 0, []), some (.getfield 16, 3, 1, [(1140, 0)]), none, none, some (.getfield 88, 0, 7, [(1046, 0)]), none, none, some (.iload 5, 5, 0, []), none, some (.iconst 1, 1, 0, []), some (.iastore, 0, 0, []), some (.iinc 5 1, 5, 1, []), none, none, some (.goto (-36), 7, 0, []), none, none, some (.aload_n 0, 0, 0, []), some (.getfield 16, 3, 1, [(1140, 0)]), none, none, some (.iload_n 3, 3, 0, []), some (.invokevirtual 130, 34, 2, [(2083, 0), (1, 0)]), none, none, some (.aload_n 0, 0, 0, []), some (.getfield 16, 3, 1, [(1140, 0)]), none, none, some (.iload_n 1, 1, 0, []), some (.iload_n 2, 2, 0, []), some (.invokevirtual 159, 16, 3, [(2146, 0), (0, 0)]), none, none, some (.ireturn, 1, 0, [])]
noncomputable def E_X4_hasWhenMended : ts_E := fun z => if z = 79 then F_X4_beginTrial else if z = 34 then F_X1_passDays else if z = 16 then F_X1_hasWord else fun _ _ => none
noncomputable def F_X4_hasWhenMended : List ts_V → ts_S → Option ts_A := ts_Fn E_X4_hasWhenMended tb_X4_hasWhenMended 6
set_option maxRecDepth 20000 in
theorem ok_X4_hasWhenMended : ts_tbo 5 ts_mi [79, 34, 16] (ts_mi 89).1.cls (ts_mi 89).2.2.2.1 (ts_mi 89).2.1 0 tb_X4_hasWhenMended = true := by decide +kernel
theorem con_X4_hasWhenMended {X : ts_X} {l : Launch} (hJ : ts_J X l) : ts_Met X l (ts_mi 89) 5 F_X4_hasWhenMended := ts_con (ts_mi 89) 5 (E := E_X4_hasWhenMended) (mi := ts_mi) (cs := [79, 34, 16]) (tb := tb_X4_hasWhenMended) (plainFor_of_name (by decide +kernel)) hJ.1 (List.forall_mem_cons.mpr ⟨⟨mw_79, 2, by decide, con_X4_beginTrial hJ⟩, List.forall_mem_cons.mpr ⟨⟨mw_34, 4, by decide, con_X1_passDays hJ⟩, List.forall_mem_cons.mpr ⟨⟨mw_16, 0, by decide, con_X1_hasWord hJ⟩, fun _ h => absurd h List.not_mem_nil⟩⟩⟩) ok_X4_hasWhenMended
def tb_X4_mend : List (Option ts_I) := [some (.aload_n 0, 0, 0, []), some (.getfield 10, 3, 0, [(1139, 0)]), none, none, some (.iload_n 1, 1, 0, []), some (.invokevirtual 97, 15, 2, [(2011, 0), (0, 0)]), none, none, some (.ifCond .eq 22, 30, 0, []), none, none, some (.iload_n 2, 2, 0, []), some (.bipush 12, 12, 0, []), none, some (.invokestatic 44, 13, 2, [(1165, 9), (0, 0)]), none, none, some (.ifCond .eq 13, 30, 0, []), none, none, some (.iload_n 3, 3, 0, []), some (.iconst 0, 0, 0, []), some (.bipush 20, 20, 0, []), none, some (.invokestatic 60, 66, 3, [(1189, 9), (0, 0)]), none, none, some (.ifCond .ne 9, 36, 0, []), none, none, some (.aload_n 0, 0, 0, []), some (.iconst 0, 0, 0, []), some (.invokevirtual 48, 62, 2, [(1168, 3), (0, 0)]), none, none, some (.ireturn, 0, 0, []), some (.iconst 1, 1, 0, []), some (.aload_n 0, 0, 0, []), some (.getfield 10, 3, 0, [(1139, 0)]), none, none, some (.getfield 163, 0, 4, [(1039, 0)]), none, none, some (.ishl, 0, 0, []), some (.istore 4, 4, 0, []), none, some (.iconst 0, 0, 0, []), some (.istore 5, 5, 0, []), none, some (.iload 5, 5, 0, []), none, some (.aload_n 0, 0, 0, []), some (.getfield 10, 3, 0, [(1139, 0)]), none, none, some (.getfield 163, 0, 4, [(1039, 0)]), none, none, some (.if_icmp .gt 50, 109, 0, []), none, none, some (.iconst 0, 0, 0, []), some (.istore 6, 6, 0, []), none, some (.iload 6, 6, 0, []), none, some (.iload 4, 4, 0, []), none, some (.if_icmp .ge 34, 103, 0, []), none, none, some (.iload 6, 6, 0, []), none, some (.invokestatic 166, 88, 1, [(2172, 9), (0, 0)]), none, none, some (.iload 5, 5, 0, []), none, some (.if_icmp .ne 18, 97, 0, []), none, none, some (.aload_n 0, 0, 0, []), some (.iload_n 1, 1, 0, []), some (.iload_n 2, 2, 0, []), some (.iload_n 3, 3, 0, []), some (.iload 6, 6, 0, []), none, some (.invokevirtual 171, 89, 5, [(2178, 3), (0, 0)]), none, none, some (.ifCond .ne 6, 97, 0, []), none, none, some (.iload 6, 6, 0, []), none, some (.ireturn, 0, 0, []), some (.iinc 6 1, 6, 1, []), none, none, some (.goto (-35), 65, 0, []), none, none, some (.iinc 5 1, 5, 1, []), none, none, some (.goto (-56), 50, 0, [(6, 0)]), none, none, some (.aload_n 0, 0, 0, []), some (.iconst 3, 3, 0, []), some (.invokevirtual 48, 62, 2, [(1168, 3), (0, 0)]), none, none, some (.ireturn, 0, 0, [])]
noncomputable def E_X4_mend : ts_E := fun z => if z = 15 then F_X1_isPerson else if z = 13 then F_X4_isBelow else if z = 66 then F_X4_isWithin else if z = 62 then F_X4_tell else if z = 88 then F_J6_bitCount_0f7a4 else if z = 89 then F_X4_hasWhenMended else fun _ _ => none
noncomputable def F_X4_mend : List ts_V → ts_S → Option ts_A := ts_Fn E_X4_mend tb_X4_mend 7
set_option maxRecDepth 20000 in
theorem ok_X4_mend : ts_tbo 6 ts_mi [15, 13, 66, 62, 88, 89] (ts_mi 90).1.cls (ts_mi 90).2.2.2.1 (ts_mi 90).2.1 0 tb_X4_mend = true := by decide +kernel
theorem con_X4_mend {X : ts_X} {l : Launch} (hJ : ts_J X l) : ts_Met X l (ts_mi 90) 6 F_X4_mend := ts_con (ts_mi 90) 6 (E := E_X4_mend) (mi := ts_mi) (cs := [15, 13, 66, 62, 88, 89]) (tb := tb_X4_mend) (plainFor_of_name (by decide +kernel)) hJ.1 (List.forall_mem_cons.mpr ⟨⟨mw_15, 1, by decide, con_X1_isPerson hJ⟩, List.forall_mem_cons.mpr ⟨⟨mw_13, 0, by decide, con_X4_isBelow hJ⟩, List.forall_mem_cons.mpr ⟨⟨mw_66, 0, by decide, con_X4_isWithin hJ⟩, List.forall_mem_cons.mpr ⟨⟨mw_62, 1, by decide, con_X4_tell hJ⟩, List.forall_mem_cons.mpr ⟨⟨mw_88, 0, by decide, con_J6_bitCount_0f7a4 hJ⟩, List.forall_mem_cons.mpr ⟨⟨mw_89, 5, by decide, con_X4_hasWhenMended hJ⟩, fun _ h => absurd h List.not_mem_nil⟩⟩⟩⟩⟩⟩) ok_X4_mend
def tb_X4_seek : List (Option ts_I) := [some (.aload_n 0, 0, 0, []), some (.getfield 10, 3, 0, [(1139, 0)]), none, none, some (.iload_n 1, 1, 0, []), some (.invokevirtual 97, 15, 2, [(2011, 0), (0, 0)]), none, none, some (.ifCond .eq 12, 20, 0, []), none, none, some (.iload_n 2, 2, 0, []), some (.bipush 12, 12, 0, []), none, some (.invokestatic 44, 13, 2, [(1165, 9), (0, 0)]), none, none, some (.ifCond .ne 9, 26, 0, []), none, none, some (.aload_n 0, 0, 0, []), some (.iconst 0, 0, 0, []), some (.invokevirtual 48, 62, 2, [(1168, 3), (0, 0)]), none, none, some (.ireturn, 0, 0, []), some (.aload_n 0, 0, 0, []), some (.getfield 10, 3, 0, [(1139, 0)]), none, none, some (.getfield 106, 0, 12, [(1058, 0)]), none, none, some (.iload_n 1, 1, 0, []), some (.iaload, 0, 0, []), some (.iconst (-1), 4294967295, 0, []), some (.if_icmp .ne 15, 51, 0, []), none, none, some (.aload_n 0, 0, 0, []), some (.getfield 10, 3, 0, [(1139, 0)]), none, none, some (.iload_n 1, 1, 0, []), some (.iload_n 2, 2, 0, []), some (.invokevirtual 159, 16, 3, [(2146, 0), (0, 0)]), none, none, some (.ifCond .eq 9, 57, 0, []), none, none, some (.aload_n 0, 0, 0, []), some (.iconst 4, 4, 0, []), some (.invokevirtual 48, 62, 2, [(1168, 3), (0, 0)]), none, none, some (.ireturn, 0, 0, []), some (.aload_n 0, 0, 0, []), some (.invokevirtual 156, 79, 1, [(2127, 3), (1, 0)]), none, none, some (.iconst 0, 0, 0, []), some (.istore_n 3, 3, 0, []), some (.iload_n 3, 3, 0, []), some (.aload_n 0, 0, 0, []), some (.getfield 16, 3, 1, [(1140, 0)]), none, none, some (.getfield 163, 0, 4, [(1039, 0)]), none, none, some (.if_icmp .ge 43, 114, 0, []), none, none, some (.aload_n 0, 0, 0, []), some (.getfield 16, 3, 1, [(1140, 0)]), none, none, some (.iload_n 1, 1, 0, []), some (.iload_n 3, 3, 0, []), some (.invokevirtual 122, 31, 3, [(2045, 0), (0, 0)]), none, none, some (.pop, 0, 0, []), some (.aload_n 0, 0, 0, []), some (.getfield 16, 3, 1, [(1140, 0)]), none, none, some (.iload_n 1, 1, 0, []), some (.iload_n 3, 3, 0, []), some (.invokevirtual 122, 31, 3, [(2045, 0), (0, 0)]), none, none, some (.pop, 0, 0, []), some (.aload_n 0, 0, 0, []), some (.getfield 16, 3, 1, [(1140, 0)]), none, none, some (.iload_n 1, 1, 0, []), some (.iload_n 2, 2, 0, []), some (.invokevirtual 159, 16, 3, [(2146, 0), (0, 0)]), none, none, some (.ifCond .eq 5, 108, 0, []), none, none, some (.iload_n 3, 3, 0, []), some (.ireturn, 0, 0, []), some (.iinc 3 1, 3, 1, []), none, none, some (.goto (-48), 63, 0, []), none, none, some (.aload_n 0, 0, 0, []), some (.iconst 3, 3, 0, []), some (.invokevirtual 48, 62, 2, [(1168, 3), (0, 0)]), none, none, some (.ireturn, 0, 0, [])]
noncomputable def E_X4_seek : ts_E := fun z => if z = 15 then F_X1_isPerson else if z = 13 then F_X4_isBelow else if z = 62 then F_X4_tell else if z = 16 then F_X1_hasWord else if z = 79 then F_X4_beginTrial else if z = 31 then F_X1_makeCrossing else fun _ _ => none
noncomputable def F_X4_seek : List ts_V → ts_S → Option ts_A := ts_Fn E_X4_seek tb_X4_seek 4
set_option maxRecDepth 20000 in
theorem ok_X4_seek : ts_tbo 4 ts_mi [15, 13, 62, 16, 79, 31] (ts_mi 91).1.cls (ts_mi 91).2.2.2.1 (ts_mi 91).2.1 0 tb_X4_seek = true := by decide +kernel
theorem con_X4_seek {X : ts_X} {l : Launch} (hJ : ts_J X l) : ts_Met X l (ts_mi 91) 4 F_X4_seek := ts_con (ts_mi 91) 4 (E := E_X4_seek) (mi := ts_mi) (cs := [15, 13, 62, 16, 79, 31]) (tb := tb_X4_seek) (plainFor_of_name (by decide +kernel)) hJ.1 (List.forall_mem_cons.mpr ⟨⟨mw_15, 1, by decide, con_X1_isPerson hJ⟩, List.forall_mem_cons.mpr ⟨⟨mw_13, 0, by decide, con_X4_isBelow hJ⟩, List.forall_mem_cons.mpr ⟨⟨mw_62, 1, by decide, con_X4_tell hJ⟩, List.forall_mem_cons.mpr ⟨⟨mw_16, 0, by decide, con_X1_hasWord hJ⟩, List.forall_mem_cons.mpr ⟨⟨mw_79, 2, by decide, con_X4_beginTrial hJ⟩, List.forall_mem_cons.mpr ⟨⟨mw_31, 3, by decide, con_X1_makeCrossing hJ⟩, fun _ h => absurd h List.not_mem_nil⟩⟩⟩⟩⟩⟩) ok_X4_seek
def tb_X4_hasAsTold : List (Option ts_I) := [some (.iconst 0, 0, 0, []), some (.istore_n 3, 3, 0, []), some (.iload_n 3, 3, 0, []), some (.aload_n 0, 0, 0, []), some (.getfield 36, 3, 5, [(1144, 0)]), none, none, some (.getfield 224, 1, 1, [(1130, 0)]), none, none, some (.iload_n 1, 1, 0, []), some (.iaload, 0, 0, []), some (.if_icmp .ge 44, 56, 0, []), none, none, some (.iload_n 3, 3, 0, []), some (.ifCond .le 11, 27, 0, []), none, none, some (.aload_n 0, 0, 0, []), some (.getfield 16, 3, 1, [(1140, 0)]), none, none, some (.iconst 1, 1, 0, []), some (.invokevirtual 130, 34, 2, [(2083, 0), (1, 0)]), none, none, some (.aload_n 0, 0, 0, []), some (.getfield 36, 3, 5, [(1144, 0)]), none, none, some (.iload_n 1, 1, 0, []), some (.iload_n 3, 3, 0, []), some (.aload_n 0, 0, 0, []), some (.getfield 16, 3, 1, [(1140, 0)]), none, none, some (.getfield 103, 0, 11, [(1055, 0)]), none, none, some (.iload_n 2, 2, 0, []), some (.iaload, 0, 0, []), some (.invokevirtual 255, 50, 4, [(2199, 1), (0, 0)]), none, none, some (.ifCond .ne 5, 50, 0, []), none, none, some (.iconst 0, 0, 0, []), some (.ireturn, 1, 0, []), some (.iinc 3 1, 3, 1, []), none, none, some (.goto (-51), 2, 0, []), none, none, some (.iconst 1, 1, 0, []), some (.ireturn, 1, 0, [])]
noncomputable def E_X4_hasAsTold : ts_E := fun z => if z = 34 then F_X1_passDays else if z = 50 then F_X2_admits else fun _ _ => none
noncomputable def F_X4_hasAsTold : List ts_V → ts_S → Option ts_A := ts_Fn E_X4_hasAsTold tb_X4_hasAsTold 4
set_option maxRecDepth 20000 in
theorem ok_X4_hasAsTold : ts_tbo 5 ts_mi [34, 50] (ts_mi 92).1.cls (ts_mi 92).2.2.2.1 (ts_mi 92).2.1 0 tb_X4_hasAsTold = true := by decide +kernel
theorem con_X4_hasAsTold {X : ts_X} {l : Launch} (hJ : ts_J X l) : ts_Met X l (ts_mi 92) 5 F_X4_hasAsTold := ts_con (ts_mi 92) 5 (E := E_X4_hasAsTold) (mi := ts_mi) (cs := [34, 50]) (tb := tb_X4_hasAsTold) (plainFor_of_name (by decide +kernel)) hJ.1 (List.forall_mem_cons.mpr ⟨⟨mw_34, 4, by decide, con_X1_passDays hJ⟩, List.forall_mem_cons.mpr ⟨⟨mw_50, 1, by decide, con_X2_admits hJ⟩, fun _ h => absurd h List.not_mem_nil⟩⟩) ok_X4_hasAsTold
def tb_X4_fits : List (Option ts_I) := [some (.iload_n 1, 1, 0, []), some (.iconst 4, 4, 0, []), some (.invokestatic 44, 13, 2, [(1165, 9), (0, 0)]), none, none, some (.ifCond .ne 9, 14, 0, []), none, none, some (.aload_n 0, 0, 0, []), some (.iconst 0, 0, 0, []), some (.invokevirtual 48, 62, 2, [(1168, 3), (0, 0)]), none, none, some (.ireturn, 0, 0, []), some (.aload_n 0, 0, 0, []), some (.getfield 36, 3, 5, [(1144, 0)]), none, none, some (.iload_n 1, 1, 0, []), some (.invokevirtual 175, 43, 2, [(2190, 1), (0, 0)]), none, none, some (.ifCond .eq 9, 31, 0, []), none, none, some (.aload_n 0, 0, 0, []), some (.iconst 5, 5, 0, []), some (.invokevirtual 48, 62, 2, [(1168, 3), (0, 0)]), none, none, some (.ireturn, 0, 0, []), some (.aload_n 0, 0, 0, []), some (.getfield 10, 3, 0, [(1139, 0)]), none, none, some (.iload_n 2, 2, 0, []), some (.invokevirtual 97, 15, 2, [(2011, 0), (0, 0)]), none, none, some (.ifCond .ne 9, 48, 0, []), none, none, some (.aload_n 0, 0, 0, []), some (.iconst 0, 0, 0, []), some (.invokevirtual 48, 62, 2, [(1168, 3), (0, 0)]), none, none, some (.ireturn, 0, 0, []), some (.aload_n 0, 0, 0, []), some (.getfield 10, 3, 0, [(1139, 0)]), none, none, some (.invokevirtual 178, 33, 1, [(2194, 0), (0, 0)]), none, none, some (.istore_n 3, 3, 0, []), some (.iconst 0, 0, 0, []), some (.istore 4, 4, 0, []), none, some (.iconst 0, 0, 0, []), some (.istore 5, 5, 0, []), none, some (.iload 5, 5, 0, []), none, some (.bipush 6, 6, 0, []), none, some (.if_icmp .ge 58, 124, 0, []), none, none, some (.iconst 0, 0, 0, []), some (.istore 6, 6, 0, []), none, some (.iload 6, 6, 0, []), none, some (.bipush 8, 8, 0, []), none, some (.if_icmp .ge 42, 118, 0, []), none, none, some (.aload_n 0, 0, 0, []), some (.invokevirtual 156, 79, 1, [(2127, 3), (1, 0)]), none, none, some (.aload_n 0, 0, 0, []), some (.getfield 16, 3, 1, [(1140, 0)]), none, none, some (.getfield 52, 0, 0, [(1029, 0)]), none, none, some (.iload_n 3, 3, 0, []), some (.bipush 10, 10, 0, []), none, some (.iload 5, 5, 0, []), none, some (.imul, 0, 0, []), some (.iload 6, 6, 0, []), none, some (.iadd, 0, 0, []), some (.iastore, 0, 0, []), some (.aload_n 0, 0, 0, []), some (.iload_n 1, 1, 0, []), some (.iload_n 2, 2, 0, []), some (.invokevirtual 181, 92, 3, [(2195, 3), (0, 0)]), none, none, some (.ifCond .eq 6, 112, 0, []), none, none, some (.iinc 4 1, 4, 1, []), none, none, some (.iinc 6 1, 6, 1, []), none, none, some (.goto (-43), 72, 0, []), none, none, some (.iinc 5 1, 5, 1, []), none, none, some (.goto (-59), 62, 0, [(6, 0)]), none, none, some (.iload 4, 4, 0, []), none, some (.ireturn, 0, 0, [])]
noncomputable def E_X4_fits : ts_E := fun z => if z = 13 then F_X4_isBelow else if z = 62 then F_X4_tell else if z = 43 then F_X2_isMissing else if z = 15 then F_X1_isPerson else if z = 33 then F_X1_placeOfToday else if z = 79 then F_X4_beginTrial else if z = 92 then F_X4_hasAsTold else fun _ _ => none
noncomputable def F_X4_fits : List ts_V → ts_S → Option ts_A := ts_Fn E_X4_fits tb_X4_fits 7
set_option maxRecDepth 20000 in
theorem ok_X4_fits : ts_tbo 6 ts_mi [13, 62, 43, 15, 33, 79, 92] (ts_mi 93).1.cls (ts_mi 93).2.2.2.1 (ts_mi 93).2.1 0 tb_X4_fits = true := by decide +kernel
theorem con_X4_fits {X : ts_X} {l : Launch} (hJ : ts_J X l) : ts_Met X l (ts_mi 93) 6 F_X4_fits := ts_con (ts_mi 93) 6 (E := E_X4_fits) (mi := ts_mi) (cs := [13, 62, 43, 15, 33, 79, 92]) (tb := tb_X4_fits) (plainFor_of_name (by decide +kernel)) hJ.1 (List.forall_mem_cons.mpr ⟨⟨mw_13, 0, by decide, con_X4_isBelow hJ⟩, List.forall_mem_cons.mpr ⟨⟨mw_62, 1, by decide, con_X4_tell hJ⟩, List.forall_mem_cons.mpr ⟨⟨mw_43, 0, by decide, con_X2_isMissing hJ⟩, List.forall_mem_cons.mpr ⟨⟨mw_15, 1, by decide, con_X1_isPerson hJ⟩, List.forall_mem_cons.mpr ⟨⟨mw_33, 1, by decide, con_X1_placeOfToday hJ⟩, List.forall_mem_cons.mpr ⟨⟨mw_79, 2, by decide, con_X4_beginTrial hJ⟩, List.forall_mem_cons.mpr ⟨⟨mw_92, 5, by decide, con_X4_hasAsTold hJ⟩, fun _ h => absurd h List.not_mem_nil⟩⟩⟩⟩⟩⟩⟩) ok_X4_fits
def tb_X4_keepsAsTold : List (Option ts_I) := [some (.iconst 0, 0, 0, []), some (.istore_n 3, 3, 0, []), some (.iload_n 3, 3, 0, []), some (.aload_n 0, 0, 0, []), some (.getfield 36, 3, 5, [(1144, 0)]), none, none, some (.getfield 224, 1, 1, [(1130, 0)]), none, none, some (.iload_n 1, 1, 0, []), some (.iaload, 0, 0, []), some (.if_icmp .ge 44, 56, 0, []), none, none, some (.iload_n 3, 3, 0, []), some (.ifCond .le 11, 27, 0, []), none, none, some (.aload_n 0, 0, 0, []), some (.getfield 16, 3, 1, [(1140, 0)]), none, none, some (.iconst 1, 1, 0, []), some (.invokevirtual 130, 34, 2, [(2083, 0), (1, 0)]), none, none, some (.aload_n 0, 0, 0, []), some (.getfield 36, 3, 5, [(1144, 0)]), none, none, some (.iload_n 1, 1, 0, []), some (.iload_n 3, 3, 0, []), some (.aload_n 0, 0, 0, []), some (.getfield 16, 3, 1, [(1140, 0)]), none, none, some (.getfield 94, 0, 8, [(1049, 0)]), none, none, some (.iload_n 2, 2, 0, []), some (.iaload, 0, 0, []), some (.invokevirtual 255, 50, 4, [(2199, 1), (0, 0)]), none, none, some (.ifCond .ne 5, 50, 0, []), none, none, some (.iconst 0, 0, 0, []), some (.ireturn, 1, 0, []), some (.iinc 3 1, 3, 1, []), none, none, some (.goto (-51), 2, 0, []), none, none, some (.iconst 1, 1, 0, []), some (.ireturn, 1, 0, [])]
noncomputable def E_X4_keepsAsTold : ts_E := fun z => if z = 34 then F_X1_passDays else if z = 50 then F_X2_admits else fun _ _ => none
noncomputable def F_X4_keepsAsTold : List ts_V → ts_S → Option ts_A := ts_Fn E_X4_keepsAsTold tb_X4_keepsAsTold 4
set_option maxRecDepth 20000 in
theorem ok_X4_keepsAsTold : ts_tbo 5 ts_mi [34, 50] (ts_mi 94).1.cls (ts_mi 94).2.2.2.1 (ts_mi 94).2.1 0 tb_X4_keepsAsTold = true := by decide +kernel
theorem con_X4_keepsAsTold {X : ts_X} {l : Launch} (hJ : ts_J X l) : ts_Met X l (ts_mi 94) 5 F_X4_keepsAsTold := ts_con (ts_mi 94) 5 (E := E_X4_keepsAsTold) (mi := ts_mi) (cs := [34, 50]) (tb := tb_X4_keepsAsTold) (plainFor_of_name (by decide +kernel)) hJ.1 (List.forall_mem_cons.mpr ⟨⟨mw_34, 4, by decide, con_X1_passDays hJ⟩, List.forall_mem_cons.mpr ⟨⟨mw_50, 1, by decide, con_X2_admits hJ⟩, fun _ h => absurd h List.not_mem_nil⟩⟩) ok_X4_keepsAsTold
def tb_X4_kinds : List (Option ts_I) := [some (.iload_n 1, 1, 0, []), some (.iconst 4, 4, 0, []), some (.invokestatic 44, 13, 2, [(1165, 9), (0, 0)]), none, none, some (.ifCond .ne 9, 14, 0, []), none, none, some (.aload_n 0, 0, 0, []), some (.iconst 0, 0, 0, []), some (.invokevirtual 48, 62, 2, [(1168, 3), (0, 0)]), none, none, some (.ireturn, 0, 0, []), some (.aload_n 0, 0, 0, []), some (.getfield 36, 3, 5, [(1144, 0)]), none, none, some (.iload_n 1, 1, 0, []), some (.invokevirtual 175, 43, 2, [(2190, 1), (0, 0)]), none, none, some (.ifCond .eq 9, 31, 0, []), none, none, some (.aload_n 0, 0, 0, []), some (.iconst 5, 5, 0, []), some (.invokevirtual 48, 62, 2, [(1168, 3), (0, 0)]), none, none, some (.ireturn, 0, 0, []), some (.aload_n 0, 0, 0, []), some (.getfield 10, 3, 0, [(1139, 0)]), none, none, some (.iload_n 2, 2, 0, []), some (.invokevirtual 67, 14, 2, [(1200, 0), (0, 0)]), none, none, some (.ifCond .ne 9, 48, 0, []), none, none, some (.aload_n 0, 0, 0, []), some (.iconst 0, 0, 0, []), some (.invokevirtual 48, 62, 2, [(1168, 3), (0, 0)]), none, none, some (.ireturn, 0, 0, []), some (.iconst 0, 0, 0, []), some (.istore_n 3, 3, 0, []), some (.iconst 0, 0, 0, []), some (.istore 4, 4, 0, []), none, some (.iload 4, 4, 0, []), none, some (.bipush 7, 7, 0, []), none, some (.if_icmp .ge 40, 97, 0, []), none, none, some (.aload_n 0, 0, 0, []), some (.invokevirtual 156, 79, 1, [(2127, 3), (1, 0)]), none, none, some (.aload_n 0, 0, 0, []), some (.getfield 16, 3, 1, [(1140, 0)]), none, none, some (.getfield 78, 0, 5, [(1041, 0)]), none, none, some (.iload_n 2, 2, 0, []), some (.iload 4, 4, 0, []), none, some (.iastore, 0, 0, []), some (.aload_n 0, 0, 0, []), some (.iload_n 1, 1, 0, []), some (.iload_n 2, 2, 0, []), some (.invokevirtual 184, 94, 3, [(2211, 3), (0, 0)]), none, none, some (.ifCond .eq 10, 91, 0, []), none, none, some (.iload_n 3, 3, 0, []), some (.iconst 1, 1, 0, []), some (.iload 4, 4, 0, []), none, some (.ishl, 0, 0, []), some (.ior, 0, 0, []), some (.istore_n 3, 3, 0, []), some (.iinc 4 1, 4, 1, []), none, none, some (.goto (-41), 53, 0, []), none, none, some (.iload_n 3, 3, 0, []), some (.ireturn, 0, 0, [])]
noncomputable def E_X4_kinds : ts_E := fun z => if z = 13 then F_X4_isBelow else if z = 62 then F_X4_tell else if z = 43 then F_X2_isMissing else if z = 14 then F_X1_isSill else if z = 79 then F_X4_beginTrial else if z = 94 then F_X4_keepsAsTold else fun _ _ => none
noncomputable def F_X4_kinds : List ts_V → ts_S → Option ts_A := ts_Fn E_X4_kinds tb_X4_kinds 5
set_option maxRecDepth 20000 in
theorem ok_X4_kinds : ts_tbo 6 ts_mi [13, 62, 43, 14, 79, 94] (ts_mi 95).1.cls (ts_mi 95).2.2.2.1 (ts_mi 95).2.1 0 tb_X4_kinds = true := by decide +kernel
theorem con_X4_kinds {X : ts_X} {l : Launch} (hJ : ts_J X l) : ts_Met X l (ts_mi 95) 6 F_X4_kinds := ts_con (ts_mi 95) 6 (E := E_X4_kinds) (mi := ts_mi) (cs := [13, 62, 43, 14, 79, 94]) (tb := tb_X4_kinds) (plainFor_of_name (by decide +kernel)) hJ.1 (List.forall_mem_cons.mpr ⟨⟨mw_13, 0, by decide, con_X4_isBelow hJ⟩, List.forall_mem_cons.mpr ⟨⟨mw_62, 1, by decide, con_X4_tell hJ⟩, List.forall_mem_cons.mpr ⟨⟨mw_43, 0, by decide, con_X2_isMissing hJ⟩, List.forall_mem_cons.mpr ⟨⟨mw_14, 1, by decide, con_X1_isSill hJ⟩, List.forall_mem_cons.mpr ⟨⟨mw_79, 2, by decide, con_X4_beginTrial hJ⟩, List.forall_mem_cons.mpr ⟨⟨mw_94, 5, by decide, con_X4_keepsAsTold hJ⟩, fun _ h => absurd h List.not_mem_nil⟩⟩⟩⟩⟩⟩) ok_X4_kinds
def tb_X4_stroll : List (Option ts_I) := [some (.iload_n 1, 1, 0, []), some (.iconst 1, 1, 0, []), some (.bipush 20, 20, 0, []), none, some (.invokestatic 60, 66, 3, [(1189, 9), (0, 0)]), none, none, some (.ifCond .ne 9, 16, 0, []), none, none, some (.aload_n 0, 0, 0, []), some (.iconst 0, 0, 0, []), some (.invokevirtual 48, 62, 2, [(1168, 3), (0, 0)]), none, none, some (.ireturn, 0, 0, []), some (.aload_n 0, 0, 0, []), some (.getfield 10, 3, 0, [(1139, 0)]), none, none, some (.getfield 125, 0, 2, [(1034, 0)]), none, none, some (.iload_n 1, 1, 0, []), some (.iadd, 0, 0, []), some (.ldc 129, 99999, 0, [(2082, 0)]), none, some (.if_icmp .le 9, 36, 0, []), none, none, some (.aload_n 0, 0, 0, []), some (.iconst 4, 4, 0, []), some (.invokevirtual 48, 62, 2, [(1168, 3), (0, 0)]), none, none, some (.ireturn, 0, 0, []), some (.iconst 0, 0, 0, []), some (.istore_n 2, 2, 0, []), some (.iload_n 2, 2, 0, []), some (.iload_n 1, 1, 0, []), some (.if_icmp .ge 62, 102, 0, []), none, none, some (.aload_n 0, 0, 0, []), some (.getfield 10, 3, 0, [(1139, 0)]), none, none, some (.invokevirtual 187, 35, 1, [(2219, 0), (0, 0)]), none, none, some (.bipush 6, 6, 0, []), none, some (.irem, 0, 0, []), some (.istore_n 3, 3, 0, []), some (.aload_n 0, 0, 0, []), some (.getfield 10, 3, 0, [(1139, 0)]), none, none, some (.invokevirtual 187, 35, 1, [(2219, 0), (0, 0)]), none, none, some (.bipush 8, 8, 0, []), none, some (.irem, 0, 0, []), some (.istore 4, 4, 0, []), none, some (.aload_n 0, 0, 0, []), some (.getfield 10, 3, 0, [(1139, 0)]), none, none, some (.getfield 52, 0, 0, [(1029, 0)]), none, none, some (.aload_n 0, 0, 0, []), some (.getfield 10, 3, 0, [(1139, 0)]), none, none, some (.invokevirtual 178, 33, 1, [(2194, 0), (0, 0)]), none, none, some (.bipush 10, 10, 0, []), none, some (.iload_n 3, 3, 0, []), some (.imul, 0, 0, []), some (.iload 4, 4, 0, []), none, some (.iadd, 0, 0, []), some (.iastore, 0, 0, []), some (.aload_n 0, 0, 0, []), some (.getfield 10, 3, 0, [(1139, 0)]), none, none, some (.iconst 1, 1, 0, []), some (.invokevirtual 130, 34, 2, [(2083, 0), (1, 0)]), none, none, some (.iinc 2 1, 2, 1, []), none, none, some (.goto (-61), 38, 0, [(3, 0), (4, 0)]), none, none, some (.aload_n 0, 0, 0, []), some (.getfield 10, 3, 0, [(1139, 0)]), none, none, some (.getfield 134, 0, 1, [(1032, 0)]), none, none, some (.ireturn, 0, 0, [])]
noncomputable def E_X4_stroll : ts_E := fun z => if z = 66 then F_X4_isWithin else if z = 62 then F_X4_tell else if z = 35 then F_X1_draw else if z = 33 then F_X1_placeOfToday else if z = 34 then F_X1_passDays else fun _ _ => none
noncomputable def F_X4_stroll : List ts_V → ts_S → Option ts_A := ts_Fn E_X4_stroll tb_X4_stroll 5
set_option maxRecDepth 20000 in
theorem ok_X4_stroll : ts_tbo 5 ts_mi [66, 62, 35, 33, 34] (ts_mi 96).1.cls (ts_mi 96).2.2.2.1 (ts_mi 96).2.1 0 tb_X4_stroll = true := by decide +kernel
theorem con_X4_stroll {X : ts_X} {l : Launch} (hJ : ts_J X l) : ts_Met X l (ts_mi 96) 5 F_X4_stroll := ts_con (ts_mi 96) 5 (E := E_X4_stroll) (mi := ts_mi) (cs := [66, 62, 35, 33, 34]) (tb := tb_X4_stroll) (plainFor_of_name (by decide +kernel)) hJ.1 (List.forall_mem_cons.mpr ⟨⟨mw_66, 0, by decide, con_X4_isWithin hJ⟩, List.forall_mem_cons.mpr ⟨⟨mw_62, 1, by decide, con_X4_tell hJ⟩, List.forall_mem_cons.mpr ⟨⟨mw_35, 0, by decide, con_X1_draw hJ⟩, List.forall_mem_cons.mpr ⟨⟨mw_33, 1, by decide, con_X1_placeOfToday hJ⟩, List.forall_mem_cons.mpr ⟨⟨mw_34, 4, by decide, con_X1_passDays hJ⟩, fun _ h => absurd h List.not_mem_nil⟩⟩⟩⟩⟩) ok_X4_stroll
def tb_X4_commonDivisor : List (Option ts_I) := [some (.iload_n 1, 1, 0, []), some (.istore_n 2, 2, 0, []), some (.iload_n 2, 2, 0, []), some (.iconst 1, 1, 0, []), some (.if_icmp .le 23, 27, 0, []), none, none, some (.iload_n 0, 0, 0, []), some (.iload_n 2, 2, 0, []), some (.irem, 0, 0, []), some (.ifCond .ne 11, 21, 0, []), none, none, some (.iload_n 1, 1, 0, []), some (.iload_n 2, 2, 0, []), some (.irem, 0, 0, []), some (.ifCond .ne 5, 21, 0, []), none, none, some (.iload_n 2, 2, 0, []), some (.ireturn, 0, 0, []), some (.iinc 2 (-1), 2, 4294967295, []), none, none, some (.goto (-22), 2, 0, []), none, none, some (.iconst 1, 1, 0, []), some (.ireturn, 0, 0, [])]
noncomputable def E_X4_commonDivisor : ts_E := fun _ _ _ => none
noncomputable def F_X4_commonDivisor : List ts_V → ts_S → Option ts_A := ts_Fn E_X4_commonDivisor tb_X4_commonDivisor 3
set_option maxRecDepth 20000 in
theorem ok_X4_commonDivisor : ts_tbo 0 ts_mi [] (ts_mi 97).1.cls (ts_mi 97).2.2.2.1 (ts_mi 97).2.1 0 tb_X4_commonDivisor = true := by decide +kernel
theorem con_X4_commonDivisor {X : ts_X} {l : Launch} (hJ : ts_J X l) : ts_Met X l (ts_mi 97) 0 F_X4_commonDivisor := ts_con (ts_mi 97) 0 (E := E_X4_commonDivisor) (mi := ts_mi) (cs := []) (tb := tb_X4_commonDivisor) (plainFor_of_name (by decide +kernel)) hJ.1 (fun _ h => absurd h List.not_mem_nil) ok_X4_commonDivisor
def tb_X4_power : List (Option ts_I) := [some (.lconst 1, 1, 0, []), some (.lstore_n 2, 2, 0, []), some (.iconst 0, 0, 0, []), some (.istore 4, 4, 0, []), none, some (.iload 4, 4, 0, []), none, some (.iload_n 1, 1, 0, []), some (.if_icmp .ge 14, 22, 0, []), none, none, some (.lload_n 2, 2, 0, []), some (.iload_n 0, 0, 0, []), some (.i2l, 0, 0, []), some (.lmul, 0, 0, []), some (.lstore_n 2, 2, 0, []), some (.iinc 4 1, 4, 1, []), none, none, some (.goto (-14), 5, 0, []), none, none, some (.lload_n 2, 2, 0, []), some (.lreturn, 0, 0, [])]
noncomputable def E_X4_power : ts_E := fun _ _ _ => none
noncomputable def F_X4_power : List ts_V → ts_S → Option ts_A := ts_Fn E_X4_power tb_X4_power 5
set_option maxRecDepth 20000 in
theorem ok_X4_power : ts_tbo 0 ts_mi [] (ts_mi 98).1.cls (ts_mi 98).2.2.2.1 (ts_mi 98).2.1 0 tb_X4_power = true := by decide +kernel
theorem con_X4_power {X : ts_X} {l : Launch} (hJ : ts_J X l) : ts_Met X l (ts_mi 98) 0 F_X4_power := ts_con (ts_mi 98) 0 (E := E_X4_power) (mi := ts_mi) (cs := []) (tb := tb_X4_power) (plainFor_of_name (by decide +kernel)) hJ.1 (fun _ h => absurd h List.not_mem_nil) ok_X4_power
def tb_X4_odds : List (Option ts_I) := [some (.aload_n 0, 0, 0, []), some (.getfield 10, 3, 0, [(1139, 0)]), none, none, some (.iload_n 1, 1, 0, []), some (.invokevirtual 97, 15, 2, [(2011, 0), (0, 0)]), none, none, some (.ifCond .eq 22, 30, 0, []), none, none, some (.iload_n 2, 2, 0, []), some (.iconst 0, 0, 0, []), some (.bipush 17, 17, 0, []), none, some (.invokestatic 60, 66, 3, [(1189, 9), (0, 0)]), none, none, some (.ifCond .eq 12, 30, 0, []), none, none, some (.iload_n 3, 3, 0, []), some (.iconst 0, 0, 0, []), some (.iconst 1, 1, 0, []), some (.invokestatic 60, 66, 3, [(1189, 9), (0, 0)]), none, none, some (.ifCond .ne 10, 37, 0, []), none, none, some (.aload_n 0, 0, 0, []), some (.iconst 0, 0, 0, []), some (.invokevirtual 48, 62, 2, [(1168, 3), (0, 0)]), none, none, some (.i2l, 0, 0, []), some (.lreturn, 0, 0, []), some (.aload_n 0, 0, 0, []), some (.getfield 10, 3, 0, [(1139, 0)]), none, none, some (.getfield 103, 0, 11, [(1055, 0)]), none, none, some (.iload_n 1, 1, 0, []), some (.iaload, 0, 0, []), some (.invokestatic 166, 88, 1, [(2172, 9), (0, 0)]), none, none, some (.istore 4, 4, 0, []), none, some (.iload 4, 4, 0, []), none, some (.bipush 12, 12, 0, []), none, some (.invokestatic 190, 97, 2, [(2228, 9), (0, 0)]), none, none, some (.istore 5, 5, 0, []), none, some (.iload_n 3, 3, 0, []), some (.ifCond .ne 8, 69, 0, []), none, none, some (.iload 4, 4, 0, []), none, some (.goto 5, 71, 0, []), none, none, some (.bipush 12, 12, 0, []), none, some (.iload 5, 5, 0, []), none, some (.idiv, 0, 0, []), some (.iload_n 2, 2, 0, []), some (.invokestatic 193, 98, 2, [(2231, 9), (2, 0)]), none, none, some (.lreturn, 0, 0, [])]
noncomputable def E_X4_odds : ts_E := fun z => if z = 15 then F_X1_isPerson else if z = 66 then F_X4_isWithin else if z = 62 then F_X4_tell else if z = 88 then F_J6_bitCount_0f7a4 else if z = 97 then F_X4_commonDivisor else if z = 98 then F_X4_power else fun _ _ => none
noncomputable def F_X4_odds : List ts_V → ts_S → Option ts_A := ts_Fn E_X4_odds tb_X4_odds 6
set_option maxRecDepth 20000 in
theorem ok_X4_odds : ts_tbo 2 ts_mi [15, 66, 62, 88, 97, 98] (ts_mi 99).1.cls (ts_mi 99).2.2.2.1 (ts_mi 99).2.1 0 tb_X4_odds = true := by decide +kernel
theorem con_X4_odds {X : ts_X} {l : Launch} (hJ : ts_J X l) : ts_Met X l (ts_mi 99) 2 F_X4_odds := ts_con (ts_mi 99) 2 (E := E_X4_odds) (mi := ts_mi) (cs := [15, 66, 62, 88, 97, 98]) (tb := tb_X4_odds) (plainFor_of_name (by decide +kernel)) hJ.1 (List.forall_mem_cons.mpr ⟨⟨mw_15, 1, by decide, con_X1_isPerson hJ⟩, List.forall_mem_cons.mpr ⟨⟨mw_66, 0, by decide, con_X4_isWithin hJ⟩, List.forall_mem_cons.mpr ⟨⟨mw_62, 1, by decide, con_X4_tell hJ⟩, List.forall_mem_cons.mpr ⟨⟨mw_88, 0, by decide, con_J6_bitCount_0f7a4 hJ⟩, List.forall_mem_cons.mpr ⟨⟨mw_97, 0, by decide, con_X4_commonDivisor hJ⟩, List.forall_mem_cons.mpr ⟨⟨mw_98, 0, by decide, con_X4_power hJ⟩, fun _ h => absurd h List.not_mem_nil⟩⟩⟩⟩⟩⟩) ok_X4_odds
def tb_X4_seed : List (Option ts_I) := [some (.aload_n 0, 0, 0, []), some (.getfield 10, 3, 0, [(1139, 0)]), none, none, some (.getfield 197, 0, 3, [(1036, 0)]), none, none, some (.istore_n 2, 2, 0, []), some (.aload_n 0, 0, 0, []), some (.getfield 10, 3, 0, [(1139, 0)]), none, none, some (.iload_n 1, 1, 0, []), some (.putfield 197, 0, 3, [(1036, 0)]), none, none, some (.iload_n 2, 2, 0, []), some (.ireturn, 0, 0, [])]
noncomputable def E_X4_seed : ts_E := fun _ _ _ => none
noncomputable def F_X4_seed : List ts_V → ts_S → Option ts_A := ts_Fn E_X4_seed tb_X4_seed 3
set_option maxRecDepth 20000 in
theorem ok_X4_seed : ts_tbo 0 ts_mi [] (ts_mi 100).1.cls (ts_mi 100).2.2.2.1 (ts_mi 100).2.1 0 tb_X4_seed = true := by decide +kernel
theorem con_X4_seed {X : ts_X} {l : Launch} (hJ : ts_J X l) : ts_Met X l (ts_mi 100) 0 F_X4_seed := ts_con (ts_mi 100) 0 (E := E_X4_seed) (mi := ts_mi) (cs := []) (tb := tb_X4_seed) (plainFor_of_name (by decide +kernel)) hJ.1 (fun _ h => absurd h List.not_mem_nil) ok_X4_seed
def tb_X4_feed : List (Option ts_I) := [some (.iload_n 2, 2, 0, []), some (.iconst 1, 1, 0, []), some (.iconst 4, 4, 0, []), some (.invokestatic 60, 66, 3, [(1189, 9), (0, 0)]), none, none, some (.ifCond .ne 9, 15, 0, []), none, none, some (.aload_n 0, 0, 0, []), some (.iconst 0, 0, 0, []), some (.invokevirtual 48, 62, 2, [(1168, 3), (0, 0)]), none, none, some (.ireturn, 0, 0, []), some (.aload_n 0, 0, 0, []), some (.getfield 29, 3, 4, [(1143, 0)]), none, none, some (.iload_n 1, 1, 0, []), some (.iload_n 2, 2, 0, []), some (.invokevirtual 200, 51, 3, [(3002, 2), (0, 0)]), none, none, some (.ifCond .eq 13, 37, 0, []), none, none, some (.aload_n 0, 0, 0, []), some (.getfield 29, 3, 4, [(1143, 0)]), none, none, some (.getfield 203, 2, 1, [(1103, 0)]), none, none, some (.goto 8, 42, 0, []), none, none, some (.aload_n 0, 0, 0, []), some (.iconst 1, 1, 0, []), some (.invokevirtual 48, 62, 2, [(1168, 3), (0, 0)]), none, none, some (.ireturn, 0, 0, [])]
noncomputable def E_X4_feed : ts_E := fun z => if z = 66 then F_X4_isWithin else if z = 62 then F_X4_tell else if z = 51 then F_X3_append else fun _ _ => none
noncomputable def F_X4_feed : List ts_V → ts_S → Option ts_A := ts_Fn E_X4_feed tb_X4_feed 3
set_option maxRecDepth 20000 in
theorem ok_X4_feed : ts_tbo 2 ts_mi [66, 62, 51] (ts_mi 101).1.cls (ts_mi 101).2.2.2.1 (ts_mi 101).2.1 0 tb_X4_feed = true := by decide +kernel
theorem con_X4_feed {X : ts_X} {l : Launch} (hJ : ts_J X l) : ts_Met X l (ts_mi 101) 2 F_X4_feed := ts_con (ts_mi 101) 2 (E := E_X4_feed) (mi := ts_mi) (cs := [66, 62, 51]) (tb := tb_X4_feed) (plainFor_of_name (by decide +kernel)) hJ.1 (List.forall_mem_cons.mpr ⟨⟨mw_66, 0, by decide, con_X4_isWithin hJ⟩, List.forall_mem_cons.mpr ⟨⟨mw_62, 1, by decide, con_X4_tell hJ⟩, List.forall_mem_cons.mpr ⟨⟨mw_51, 0, by decide, con_X3_append hJ⟩, fun _ h => absurd h List.not_mem_nil⟩⟩⟩) ok_X4_feed
def tb_X4_wipe : List (Option ts_I) := [some (.aload_n 0, 0, 0, []), some (.getfield 29, 3, 4, [(1143, 0)]), none, none, some (.getfield 203, 2, 1, [(1103, 0)]), none, none, some (.istore_n 1, 1, 0, []), some (.aload_n 0, 0, 0, []), some (.getfield 29, 3, 4, [(1143, 0)]), none, none, some (.iconst 0, 0, 0, []), some (.putfield 203, 2, 1, [(1103, 0)]), none, none, some (.iload_n 1, 1, 0, []), some (.ireturn, 0, 0, [])]
noncomputable def E_X4_wipe : ts_E := fun _ _ _ => none
noncomputable def F_X4_wipe : List ts_V → ts_S → Option ts_A := ts_Fn E_X4_wipe tb_X4_wipe 2
set_option maxRecDepth 20000 in
theorem ok_X4_wipe : ts_tbo 0 ts_mi [] (ts_mi 102).1.cls (ts_mi 102).2.2.2.1 (ts_mi 102).2.1 0 tb_X4_wipe = true := by decide +kernel
theorem con_X4_wipe {X : ts_X} {l : Launch} (hJ : ts_J X l) : ts_Met X l (ts_mi 102) 0 F_X4_wipe := ts_con (ts_mi 102) 0 (E := E_X4_wipe) (mi := ts_mi) (cs := []) (tb := tb_X4_wipe) (plainFor_of_name (by decide +kernel)) hJ.1 (fun _ h => absurd h List.not_mem_nil) ok_X4_wipe
def tb_X4_text : List (Option ts_I) := [some (.aload_n 0, 0, 0, []), some (.invokevirtual 156, 79, 1, [(2127, 3), (1, 0)]), none, none, some (.aload_n 0, 0, 0, []), some (.getfield 29, 3, 4, [(1143, 0)]), none, none, some (.aload_n 0, 0, 0, []), some (.getfield 16, 3, 1, [(1140, 0)]), none, none, some (.invokevirtual 206, 61, 2, [(3014, 2), (0, 0)]), none, none, some (.istore_n 1, 1, 0, []), some (.iload_n 1, 1, 0, []), some (.ifCond .lt 14, 31, 0, []), none, none, some (.aload_n 0, 0, 0, []), some (.getfield 10, 3, 0, [(1139, 0)]), none, none, some (.aload_n 0, 0, 0, []), some (.getfield 16, 3, 1, [(1140, 0)]), none, none, some (.invokevirtual 210, 12, 2, [(2131, 0), (1, 0)]), none, none, some (.aload_n 0, 0, 0, []), some (.getfield 29, 3, 4, [(1143, 0)]), none, none, some (.iconst 0, 0, 0, []), some (.putfield 203, 2, 1, [(1103, 0)]), none, none, some (.iload_n 1, 1, 0, []), some (.ireturn, 0, 0, [])]
noncomputable def E_X4_text : ts_E := fun z => if z = 79 then F_X4_beginTrial else if z = 61 then F_X3_readItems else if z = 12 then F_X1_become else fun _ _ => none
noncomputable def F_X4_text : List ts_V → ts_S → Option ts_A := ts_Fn E_X4_text tb_X4_text 2
set_option maxRecDepth 20000 in
theorem ok_X4_text : ts_tbo 8 ts_mi [79, 61, 12] (ts_mi 103).1.cls (ts_mi 103).2.2.2.1 (ts_mi 103).2.1 0 tb_X4_text = true := by decide +kernel
theorem con_X4_text {X : ts_X} {l : Launch} (hJ : ts_J X l) : ts_Met X l (ts_mi 103) 8 F_X4_text := ts_con (ts_mi 103) 8 (E := E_X4_text) (mi := ts_mi) (cs := [79, 61, 12]) (tb := tb_X4_text) (plainFor_of_name (by decide +kernel)) hJ.1 (List.forall_mem_cons.mpr ⟨⟨mw_79, 2, by decide, con_X4_beginTrial hJ⟩, List.forall_mem_cons.mpr ⟨⟨mw_61, 7, by decide, con_X3_readItems hJ⟩, List.forall_mem_cons.mpr ⟨⟨mw_12, 1, by decide, con_X1_become hJ⟩, fun _ h => absurd h List.not_mem_nil⟩⟩⟩) ok_X4_text
def tb_X4_hold : List (Option ts_I) := [some (.iload_n 1, 1, 0, []), some (.bipush 10, 10, 0, []), none, some (.invokestatic 44, 13, 2, [(1165, 9), (0, 0)]), none, none, some (.ifCond .eq 19, 25, 0, []), none, none, some (.iload_n 2, 2, 0, []), some (.iconst (-1), 4294967295, 0, []), some (.if_icmp .eq 20, 31, 0, []), none, none, some (.aload_n 0, 0, 0, []), some (.getfield 10, 3, 0, [(1139, 0)]), none, none, some (.iload_n 2, 2, 0, []), some (.invokevirtual 67, 14, 2, [(1200, 0), (0, 0)]), none, none, some (.ifCond .ne 9, 31, 0, []), none, none, some (.aload_n 0, 0, 0, []), some (.iconst 0, 0, 0, []), some (.invokevirtual 48, 62, 2, [(1168, 3), (0, 0)]), none, none, some (.ireturn, 0, 0, []), some (.aload_n 0, 0, 0, []), some (.getfield 10, 3, 0, [(1139, 0)]), none, none, some (.getfield 214, 0, 14, [(1062, 0)]), none, none, some (.iload_n 1, 1, 0, []), some (.iload_n 2, 2, 0, []), some (.iastore, 0, 0, []), some (.iconst 1, 1, 0, []), some (.ireturn, 0, 0, [])]
noncomputable def E_X4_hold : ts_E := fun z => if z = 13 then F_X4_isBelow else if z = 14 then F_X1_isSill else if z = 62 then F_X4_tell else fun _ _ => none
noncomputable def F_X4_hold : List ts_V → ts_S → Option ts_A := ts_Fn E_X4_hold tb_X4_hold 3
set_option maxRecDepth 20000 in
theorem ok_X4_hold : ts_tbo 2 ts_mi [13, 14, 62] (ts_mi 104).1.cls (ts_mi 104).2.2.2.1 (ts_mi 104).2.1 0 tb_X4_hold = true := by decide +kernel
theorem con_X4_hold {X : ts_X} {l : Launch} (hJ : ts_J X l) : ts_Met X l (ts_mi 104) 2 F_X4_hold := ts_con (ts_mi 104) 2 (E := E_X4_hold) (mi := ts_mi) (cs := [13, 14, 62]) (tb := tb_X4_hold) (plainFor_of_name (by decide +kernel)) hJ.1 (List.forall_mem_cons.mpr ⟨⟨mw_13, 0, by decide, con_X4_isBelow hJ⟩, List.forall_mem_cons.mpr ⟨⟨mw_14, 1, by decide, con_X1_isSill hJ⟩, List.forall_mem_cons.mpr ⟨⟨mw_62, 1, by decide, con_X4_tell hJ⟩, fun _ h => absurd h List.not_mem_nil⟩⟩⟩) ok_X4_hold
def tb_X4_as : List (Option ts_I) := [some (.iload_n 1, 1, 0, []), some (.bipush 10, 10, 0, []), none, some (.invokestatic 44, 13, 2, [(1165, 9), (0, 0)]), none, none, some (.ifCond .eq 12, 18, 0, []), none, none, some (.iload_n 2, 2, 0, []), some (.bipush 7, 7, 0, []), none, some (.invokestatic 44, 13, 2, [(1165, 9), (0, 0)]), none, none, some (.ifCond .ne 9, 24, 0, []), none, none, some (.aload_n 0, 0, 0, []), some (.iconst 0, 0, 0, []), some (.invokevirtual 48, 62, 2, [(1168, 3), (0, 0)]), none, none, some (.ireturn, 0, 0, []), some (.aload_n 0, 0, 0, []), some (.getfield 10, 3, 0, [(1139, 0)]), none, none, some (.getfield 214, 0, 14, [(1062, 0)]), none, none, some (.iload_n 1, 1, 0, []), some (.iaload, 0, 0, []), some (.istore_n 3, 3, 0, []), some (.aload_n 0, 0, 0, []), some (.getfield 10, 3, 0, [(1139, 0)]), none, none, some (.iload_n 3, 3, 0, []), some (.invokevirtual 67, 14, 2, [(1200, 0), (0, 0)]), none, none, some (.ifCond .ne 9, 51, 0, []), none, none, some (.aload_n 0, 0, 0, []), some (.iconst 5, 5, 0, []), some (.invokevirtual 48, 62, 2, [(1168, 3), (0, 0)]), none, none, some (.ireturn, 0, 0, []), some (.aload_n 0, 0, 0, []), some (.getfield 10, 3, 0, [(1139, 0)]), none, none, some (.getfield 78, 0, 5, [(1041, 0)]), none, none, some (.iload_n 3, 3, 0, []), some (.iaload, 0, 0, []), some (.iload_n 2, 2, 0, []), some (.invokestatic 217, 1, 2, [(3137, 9), (0, 0)]), none, none, some (.ifCond .eq 7, 71, 0, []), none, none, some (.iload_n 3, 3, 0, []), some (.goto 8, 76, 0, []), none, none, some (.aload_n 0, 0, 0, []), some (.iconst 2, 2, 0, []), some (.invokevirtual 48, 62, 2, [(1168, 3), (0, 0)]), none, none, some (.ireturn, 0, 0, [])]
noncomputable def E_X4_as : ts_E := fun z => if z = 13 then F_X4_isBelow else if z = 62 then F_X4_tell else if z = 14 then F_X1_isSill else if z = 1 then F_X0_isUnder else fun _ _ => none
noncomputable def F_X4_as : List ts_V → ts_S → Option ts_A := ts_Fn E_X4_as tb_X4_as 4
set_option maxRecDepth 20000 in
theorem ok_X4_as : ts_tbo 2 ts_mi [13, 62, 14, 1] (ts_mi 105).1.cls (ts_mi 105).2.2.2.1 (ts_mi 105).2.1 0 tb_X4_as = true := by decide +kernel
theorem con_X4_as {X : ts_X} {l : Launch} (hJ : ts_J X l) : ts_Met X l (ts_mi 105) 2 F_X4_as := ts_con (ts_mi 105) 2 (E := E_X4_as) (mi := ts_mi) (cs := [13, 62, 14, 1]) (tb := tb_X4_as) (plainFor_of_name (by decide +kernel)) hJ.1 (List.forall_mem_cons.mpr ⟨⟨mw_13, 0, by decide, con_X4_isBelow hJ⟩, List.forall_mem_cons.mpr ⟨⟨mw_62, 1, by decide, con_X4_tell hJ⟩, List.forall_mem_cons.mpr ⟨⟨mw_14, 1, by decide, con_X1_isSill hJ⟩, List.forall_mem_cons.mpr ⟨⟨mw_1, 1, by decide, con_X0_isUnder hJ⟩, fun _ h => absurd h List.not_mem_nil⟩⟩⟩⟩) ok_X4_as
def tb_X4_sheet : List (Option ts_I) := [some (.iload_n 2, 2, 0, []), some (.ifCond .eq 21, 22, 0, []), none, none, some (.iload_n 2, 2, 0, []), some (.bipush 8, 8, 0, []), none, some (.if_icmp .eq 15, 22, 0, []), none, none, some (.iload_n 2, 2, 0, []), some (.bipush 16, 16, 0, []), none, some (.if_icmp .eq 9, 22, 0, []), none, none, some (.iload_n 2, 2, 0, []), some (.bipush 32, 32, 0, []), none, some (.if_icmp .ne 7, 26, 0, []), none, none, some (.iconst 1, 1, 0, []), some (.goto 4, 27, 0, []), none, none, some (.iconst 0, 0, 0, []), some (.istore 4, 4, 0, []), none, some (.iload_n 1, 1, 0, []), some (.iconst 4, 4, 0, []), some (.invokestatic 44, 13, 2, [(1165, 9), (0, 0)]), none, none, some (.ifCond .eq 8, 42, 0, []), none, none, some (.iload 4, 4, 0, []), none, some (.ifCond .ne 9, 48, 0, []), none, none, some (.aload_n 0, 0, 0, []), some (.iconst 0, 0, 0, []), some (.invokevirtual 48, 62, 2, [(1168, 3), (0, 0)]), none, none, some (.ireturn, 0, 0, []), some (.iload_n 3, 3, 0, []), some (.ifCond .ge 10, 59, 0, []), none, none, some (.aload_n 0, 0, 0, []), some (.bipush 6, 6, 0, []), none, some (.invokevirtual 48, 62, 2, [(1168, 3), (0, 0)]), none, none, some (.ireturn, 0, 0, []), some (.iload_n 3, 3, 0, []), some (.bipush 40, 40, 0, []), none, some (.if_icmp .le 9, 71, 0, []), none, none, some (.aload_n 0, 0, 0, []), some (.iconst 0, 0, 0, []), some (.invokevirtual 48, 62, 2, [(1168, 3), (0, 0)]), none, none, some (.ireturn, 0, 0, []), some (.aload_n 0, 0, 0, []), some (.getfield 36, 3, 5, [(1144, 0)]), none, none, some (.iload_n 1, 1, 0, []), some (.iload_n 2, 2, 0, []), some (.iload_n 2, 2, 0, []), some (.ifCond .ne 7, 85, 0, []), none, none, some (.iconst 0, 0, 0, []), some (.goto 4, 86, 0, []), none, none, some (.iload_n 3, 3, 0, []), some (.invokevirtual 220, 44, 4, [(3147, 1), (1, 0)]), none, none, some (.aload_n 0, 0, 0, []), some (.getfield 36, 3, 5, [(1144, 0)]), none, none, some (.getfield 224, 1, 1, [(1130, 0)]), none, none, some (.iload_n 1, 1, 0, []), some (.iaload, 0, 0, []), some (.ireturn, 0, 0, [])]
noncomputable def E_X4_sheet : ts_E := fun z => if z = 13 then F_X4_isBelow else if z = 62 then F_X4_tell else if z = 44 then F_X2_layOut else fun _ _ => none
noncomputable def F_X4_sheet : List ts_V → ts_S → Option ts_A := ts_Fn E_X4_sheet tb_X4_sheet 5
set_option maxRecDepth 20000 in
theorem ok_X4_sheet : ts_tbo 2 ts_mi [13, 62, 44] (ts_mi 106).1.cls (ts_mi 106).2.2.2.1 (ts_mi 106).2.1 0 tb_X4_sheet = true := by decide +kernel
theorem con_X4_sheet {X : ts_X} {l : Launch} (hJ : ts_J X l) : ts_Met X l (ts_mi 106) 2 F_X4_sheet := ts_con (ts_mi 106) 2 (E := E_X4_sheet) (mi := ts_mi) (cs := [13, 62, 44]) (tb := tb_X4_sheet) (plainFor_of_name (by decide +kernel)) hJ.1 (List.forall_mem_cons.mpr ⟨⟨mw_13, 0, by decide, con_X4_isBelow hJ⟩, List.forall_mem_cons.mpr ⟨⟨mw_62, 1, by decide, con_X4_tell hJ⟩, List.forall_mem_cons.mpr ⟨⟨mw_44, 0, by decide, con_X2_layOut hJ⟩, fun _ h => absurd h List.not_mem_nil⟩⟩⟩) ok_X4_sheet
def tb_X4_write : List (Option ts_I) := [some (.iload_n 1, 1, 0, []), some (.iconst 4, 4, 0, []), some (.invokestatic 44, 13, 2, [(1165, 9), (0, 0)]), none, none, some (.ifCond .ne 9, 14, 0, []), none, none, some (.aload_n 0, 0, 0, []), some (.iconst 0, 0, 0, []), some (.invokevirtual 48, 62, 2, [(1168, 3), (0, 0)]), none, none, some (.ireturn, 0, 0, []), some (.aload_n 0, 0, 0, []), some (.getfield 36, 3, 5, [(1144, 0)]), none, none, some (.iload_n 1, 1, 0, []), some (.invokevirtual 175, 43, 2, [(2190, 1), (0, 0)]), none, none, some (.ifCond .eq 9, 31, 0, []), none, none, some (.aload_n 0, 0, 0, []), some (.iconst 5, 5, 0, []), some (.invokevirtual 48, 62, 2, [(1168, 3), (0, 0)]), none, none, some (.ireturn, 0, 0, []), some (.iload_n 2, 2, 0, []), some (.aload_n 0, 0, 0, []), some (.getfield 36, 3, 5, [(1144, 0)]), none, none, some (.getfield 224, 1, 1, [(1130, 0)]), none, none, some (.iload_n 1, 1, 0, []), some (.iaload, 0, 0, []), some (.invokestatic 44, 13, 2, [(1165, 9), (0, 0)]), none, none, some (.ifCond .ne 9, 53, 0, []), none, none, some (.aload_n 0, 0, 0, []), some (.iconst 0, 0, 0, []), some (.invokevirtual 48, 62, 2, [(1168, 3), (0, 0)]), none, none, some (.ireturn, 0, 0, []), some (.aload_n 0, 0, 0, []), some (.getfield 36, 3, 5, [(1144, 0)]), none, none, some (.iload_n 1, 1, 0, []), some (.iload_n 2, 2, 0, []), some (.iload_n 3, 3, 0, []), some (.invokevirtual 227, 47, 4, [(3155, 1), (1, 0)]), none, none, some (.iconst 1, 1, 0, []), some (.ireturn, 0, 0, [])]
noncomputable def E_X4_write : ts_E := fun z => if z = 13 then F_X4_isBelow else if z = 62 then F_X4_tell else if z = 43 then F_X2_isMissing else if z = 47 then F_X2_put else fun _ _ => none
noncomputable def F_X4_write : List ts_V → ts_S → Option ts_A := ts_Fn E_X4_write tb_X4_write 4
set_option maxRecDepth 20000 in
theorem ok_X4_write : ts_tbo 2 ts_mi [13, 62, 43, 47] (ts_mi 107).1.cls (ts_mi 107).2.2.2.1 (ts_mi 107).2.1 0 tb_X4_write = true := by decide +kernel
theorem con_X4_write {X : ts_X} {l : Launch} (hJ : ts_J X l) : ts_Met X l (ts_mi 107) 2 F_X4_write := ts_con (ts_mi 107) 2 (E := E_X4_write) (mi := ts_mi) (cs := [13, 62, 43, 47]) (tb := tb_X4_write) (plainFor_of_name (by decide +kernel)) hJ.1 (List.forall_mem_cons.mpr ⟨⟨mw_13, 0, by decide, con_X4_isBelow hJ⟩, List.forall_mem_cons.mpr ⟨⟨mw_62, 1, by decide, con_X4_tell hJ⟩, List.forall_mem_cons.mpr ⟨⟨mw_43, 0, by decide, con_X2_isMissing hJ⟩, List.forall_mem_cons.mpr ⟨⟨mw_47, 1, by decide, con_X2_put hJ⟩, fun _ h => absurd h List.not_mem_nil⟩⟩⟩⟩) ok_X4_write
def tb_X4_copy : List (Option ts_I) := [some (.iload_n 1, 1, 0, []), some (.iconst 4, 4, 0, []), some (.invokestatic 44, 13, 2, [(1165, 9), (0, 0)]), none, none, some (.ifCond .eq 11, 16, 0, []), none, none, some (.iload_n 3, 3, 0, []), some (.iconst 4, 4, 0, []), some (.invokestatic 44, 13, 2, [(1165, 9), (0, 0)]), none, none, some (.ifCond .ne 9, 22, 0, []), none, none, some (.aload_n 0, 0, 0, []), some (.iconst 0, 0, 0, []), some (.invokevirtual 48, 62, 2, [(1168, 3), (0, 0)]), none, none, some (.ireturn, 0, 0, []), some (.aload_n 0, 0, 0, []), some (.getfield 36, 3, 5, [(1144, 0)]), none, none, some (.iload_n 1, 1, 0, []), some (.invokevirtual 175, 43, 2, [(2190, 1), (0, 0)]), none, none, some (.ifCond .ne 14, 44, 0, []), none, none, some (.aload_n 0, 0, 0, []), some (.getfield 36, 3, 5, [(1144, 0)]), none, none, some (.iload_n 3, 3, 0, []), some (.invokevirtual 175, 43, 2, [(2190, 1), (0, 0)]), none, none, some (.ifCond .eq 9, 50, 0, []), none, none, some (.aload_n 0, 0, 0, []), some (.iconst 5, 5, 0, []), some (.invokevirtual 48, 62, 2, [(1168, 3), (0, 0)]), none, none, some (.ireturn, 0, 0, []), some (.aload_n 0, 0, 0, []), some (.getfield 36, 3, 5, [(1144, 0)]), none, none, some (.getfield 230, 1, 0, [(1128, 0)]), none, none, some (.iload_n 1, 1, 0, []), some (.iaload, 0, 0, []), some (.aload_n 0, 0, 0, []), some (.getfield 36, 3, 5, [(1144, 0)]), none, none, some (.getfield 230, 1, 0, [(1128, 0)]), none, none, some (.iload_n 3, 3, 0, []), some (.iaload, 0, 0, []), some (.if_icmp .eq 9, 77, 0, []), none, none, some (.aload_n 0, 0, 0, []), some (.iconst 2, 2, 0, []), some (.invokevirtual 48, 62, 2, [(1168, 3), (0, 0)]), none, none, some (.ireturn, 0, 0, []), some (.aload_n 0, 0, 0, []), some (.getfield 36, 3, 5, [(1144, 0)]), none, none, some (.iload_n 1, 1, 0, []), some (.iload_n 2, 2, 0, []), some (.iload 5, 5, 0, []), none, some (.invokevirtual 233, 48, 4, [(3166, 1), (0, 0)]), none, none, some (.ifCond .eq 18, 106, 0, []), none, none, some (.aload_n 0, 0, 0, []), some (.getfield 36, 3, 5, [(1144, 0)]), none, none, some (.iload_n 3, 3, 0, []), some (.iload 4, 4, 0, []), none, some (.iload 5, 5, 0, []), none, some (.invokevirtual 233, 48, 4, [(3166, 1), (0, 0)]), none, none, some (.ifCond .ne 9, 112, 0, []), none, none, some (.aload_n 0, 0, 0, []), some (.iconst 0, 0, 0, []), some (.invokevirtual 48, 62, 2, [(1168, 3), (0, 0)]), none, none, some (.ireturn, 0, 0, []), some (.aload_n 0, 0, 0, []), some (.getfield 36, 3, 5, [(1144, 0)]), none, none, some (.iload_n 1, 1, 0, []), some (.iload_n 2, 2, 0, []), some (.iload_n 3, 3, 0, []), some (.iload 4, 4, 0, []), none, some (.iload 5, 5, 0, []), none, some (.invokevirtual 236, 49, 6, [(3170, 1), (1, 0)]), none, none, some (.iload 5, 5, 0, []), none, some (.ireturn, 0, 0, [])]
noncomputable def E_X4_copy : ts_E := fun z => if z = 13 then F_X4_isBelow else if z = 62 then F_X4_tell else if z = 43 then F_X2_isMissing else if z = 48 then F_X2_hasRange else if z = 49 then F_X2_move else fun _ _ => none
noncomputable def F_X4_copy : List ts_V → ts_S → Option ts_A := ts_Fn E_X4_copy tb_X4_copy 6
set_option maxRecDepth 20000 in
theorem ok_X4_copy : ts_tbo 2 ts_mi [13, 62, 43, 48, 49] (ts_mi 108).1.cls (ts_mi 108).2.2.2.1 (ts_mi 108).2.1 0 tb_X4_copy = true := by decide +kernel
theorem con_X4_copy {X : ts_X} {l : Launch} (hJ : ts_J X l) : ts_Met X l (ts_mi 108) 2 F_X4_copy := ts_con (ts_mi 108) 2 (E := E_X4_copy) (mi := ts_mi) (cs := [13, 62, 43, 48, 49]) (tb := tb_X4_copy) (plainFor_of_name (by decide +kernel)) hJ.1 (List.forall_mem_cons.mpr ⟨⟨mw_13, 0, by decide, con_X4_isBelow hJ⟩, List.forall_mem_cons.mpr ⟨⟨mw_62, 1, by decide, con_X4_tell hJ⟩, List.forall_mem_cons.mpr ⟨⟨mw_43, 0, by decide, con_X2_isMissing hJ⟩, List.forall_mem_cons.mpr ⟨⟨mw_48, 0, by decide, con_X2_hasRange hJ⟩, List.forall_mem_cons.mpr ⟨⟨mw_49, 1, by decide, con_X2_move hJ⟩, fun _ h => absurd h List.not_mem_nil⟩⟩⟩⟩⟩) ok_X4_copy
def tb_X4_load : List (Option ts_I) := [some (.iload_n 1, 1, 0, []), some (.iconst 4, 4, 0, []), some (.invokestatic 44, 13, 2, [(1165, 9), (0, 0)]), none, none, some (.ifCond .ne 9, 14, 0, []), none, none, some (.aload_n 0, 0, 0, []), some (.iconst 0, 0, 0, []), some (.invokevirtual 48, 62, 2, [(1168, 3), (0, 0)]), none, none, some (.ireturn, 0, 0, []), some (.aload_n 0, 0, 0, []), some (.getfield 36, 3, 5, [(1144, 0)]), none, none, some (.iload_n 1, 1, 0, []), some (.invokevirtual 175, 43, 2, [(2190, 1), (0, 0)]), none, none, some (.ifCond .eq 9, 31, 0, []), none, none, some (.aload_n 0, 0, 0, []), some (.iconst 5, 5, 0, []), some (.invokevirtual 48, 62, 2, [(1168, 3), (0, 0)]), none, none, some (.ireturn, 0, 0, []), some (.aload_n 0, 0, 0, []), some (.getfield 36, 3, 5, [(1144, 0)]), none, none, some (.getfield 224, 1, 1, [(1130, 0)]), none, none, some (.iload_n 1, 1, 0, []), some (.iaload, 0, 0, []), some (.aload_n 0, 0, 0, []), some (.getfield 10, 3, 0, [(1139, 0)]), none, none, some (.getfield 240, 0, 10, [(1052, 0)]), none, none, some (.invokestatic 243, 27, 2, [(3179, 9), (0, 0)]), none, none, some (.istore_n 2, 2, 0, []), some (.iconst 0, 0, 0, []), some (.istore_n 3, 3, 0, []), some (.iload_n 3, 3, 0, []), some (.iload_n 2, 2, 0, []), some (.if_icmp .ge 45, 100, 0, []), none, none, some (.aload_n 0, 0, 0, []), some (.getfield 36, 3, 5, [(1144, 0)]), none, none, some (.iload_n 1, 1, 0, []), some (.iload_n 3, 3, 0, []), some (.invokevirtual 248, 45, 3, [(3180, 1), (0, 0)]), none, none, some (.istore 4, 4, 0, []), none, some (.iload 4, 4, 0, []), none, some (.iconst 0, 0, 0, []), some (.sipush 4095, 4095, 0, []), none, none, some (.invokestatic 60, 66, 3, [(1189, 9), (0, 0)]), none, none, some (.ifCond .ne 5, 83, 0, []), none, none, some (.iload_n 3, 3, 0, []), some (.ireturn, 0, 0, []), some (.aload_n 0, 0, 0, []), some (.getfield 10, 3, 0, [(1139, 0)]), none, none, some (.getfield 103, 0, 11, [(1055, 0)]), none, none, some (.iload_n 3, 3, 0, []), some (.iload 4, 4, 0, []), none, some (.iastore, 0, 0, []), some (.iinc 3 1, 3, 1, []), none, none, some (.goto (-44), 53, 0, [(4, 0)]), none, none, some (.iload_n 2, 2, 0, []), some (.ireturn, 0, 0, [])]
noncomputable def E_X4_load : ts_E := fun z => if z = 13 then F_X4_isBelow else if z = 62 then F_X4_tell else if z = 43 then F_X2_isMissing else if z = 27 then F_J9_min_7cf53 else if z = 45 then F_X2_numberAt else if z = 66 then F_X4_isWithin else fun _ _ => none
noncomputable def F_X4_load : List ts_V → ts_S → Option ts_A := ts_Fn E_X4_load tb_X4_load 5
set_option maxRecDepth 20000 in
theorem ok_X4_load : ts_tbo 2 ts_mi [13, 62, 43, 27, 45, 66] (ts_mi 109).1.cls (ts_mi 109).2.2.2.1 (ts_mi 109).2.1 0 tb_X4_load = true := by decide +kernel
theorem con_X4_load {X : ts_X} {l : Launch} (hJ : ts_J X l) : ts_Met X l (ts_mi 109) 2 F_X4_load := ts_con (ts_mi 109) 2 (E := E_X4_load) (mi := ts_mi) (cs := [13, 62, 43, 27, 45, 66]) (tb := tb_X4_load) (plainFor_of_name (by decide +kernel)) hJ.1 (List.forall_mem_cons.mpr ⟨⟨mw_13, 0, by decide, con_X4_isBelow hJ⟩, List.forall_mem_cons.mpr ⟨⟨mw_62, 1, by decide, con_X4_tell hJ⟩, List.forall_mem_cons.mpr ⟨⟨mw_43, 0, by decide, con_X2_isMissing hJ⟩, List.forall_mem_cons.mpr ⟨⟨mw_27, 0, by decide, con_J9_min_7cf53 hJ⟩, List.forall_mem_cons.mpr ⟨⟨mw_45, 0, by decide, con_X2_numberAt hJ⟩, List.forall_mem_cons.mpr ⟨⟨mw_66, 0, by decide, con_X4_isWithin hJ⟩, fun _ h => absurd h List.not_mem_nil⟩⟩⟩⟩⟩⟩) ok_X4_load
def tb_X4_judge : List (Option ts_I) := [some (.iload_n 1, 1, 0, []), some (.iconst 4, 4, 0, []), some (.invokestatic 44, 13, 2, [(1165, 9), (0, 0)]), none, none, some (.ifCond .ne 9, 14, 0, []), none, none, some (.aload_n 0, 0, 0, []), some (.iconst 0, 0, 0, []), some (.invokevirtual 48, 62, 2, [(1168, 3), (0, 0)]), none, none, some (.ireturn, 0, 0, []), some (.aload_n 0, 0, 0, []), some (.getfield 36, 3, 5, [(1144, 0)]), none, none, some (.iload_n 1, 1, 0, []), some (.invokevirtual 175, 43, 2, [(2190, 1), (0, 0)]), none, none, some (.ifCond .eq 9, 31, 0, []), none, none, some (.aload_n 0, 0, 0, []), some (.iconst 5, 5, 0, []), some (.invokevirtual 48, 62, 2, [(1168, 3), (0, 0)]), none, none, some (.ireturn, 0, 0, []), some (.iconst 0, 0, 0, []), some (.istore_n 2, 2, 0, []), some (.iload_n 2, 2, 0, []), some (.aload_n 0, 0, 0, []), some (.getfield 36, 3, 5, [(1144, 0)]), none, none, some (.getfield 224, 1, 1, [(1130, 0)]), none, none, some (.iload_n 1, 1, 0, []), some (.iaload, 0, 0, []), some (.if_icmp .ge 41, 84, 0, []), none, none, some (.aload_n 0, 0, 0, []), some (.getfield 10, 3, 0, [(1139, 0)]), none, none, some (.iconst 0, 0, 0, []), some (.iload_n 2, 2, 0, []), some (.invokevirtual 75, 19, 3, [(1231, 0), (0, 0)]), none, none, some (.istore_n 3, 3, 0, []), some (.iload_n 3, 3, 0, []), some (.iconst (-1), 4294967295, 0, []), some (.if_icmp .eq 16, 74, 0, []), none, none, some (.iload_n 3, 3, 0, []), some (.aload_n 0, 0, 0, []), some (.getfield 36, 3, 5, [(1144, 0)]), none, none, some (.iload_n 1, 1, 0, []), some (.iload_n 2, 2, 0, []), some (.invokevirtual 248, 45, 3, [(3180, 1), (0, 0)]), none, none, some (.if_icmp .eq 7, 78, 0, []), none, none, some (.iconst 1, 1, 0, []), some (.iload_n 2, 2, 0, []), some (.iadd, 0, 0, []), some (.ireturn, 0, 0, []), some (.iinc 2 1, 2, 1, []), none, none, some (.goto (-48), 33, 0, [(3, 0)]), none, none, some (.iconst 0, 0, 0, []), some (.ireturn, 0, 0, [])]
noncomputable def E_X4_judge : ts_E := fun z => if z = 13 then F_X4_isBelow else if z = 62 then F_X4_tell else if z = 43 then F_X2_isMissing else if z = 19 then F_X1_keptAt else if z = 45 then F_X2_numberAt else fun _ _ => none
noncomputable def F_X4_judge : List ts_V → ts_S → Option ts_A := ts_Fn E_X4_judge tb_X4_judge 4
set_option maxRecDepth 20000 in
theorem ok_X4_judge : ts_tbo 2 ts_mi [13, 62, 43, 19, 45] (ts_mi 110).1.cls (ts_mi 110).2.2.2.1 (ts_mi 110).2.1 0 tb_X4_judge = true := by decide +kernel
theorem con_X4_judge {X : ts_X} {l : Launch} (hJ : ts_J X l) : ts_Met X l (ts_mi 110) 2 F_X4_judge := ts_con (ts_mi 110) 2 (E := E_X4_judge) (mi := ts_mi) (cs := [13, 62, 43, 19, 45]) (tb := tb_X4_judge) (plainFor_of_name (by decide +kernel)) hJ.1 (List.forall_mem_cons.mpr ⟨⟨mw_13, 0, by decide, con_X4_isBelow hJ⟩, List.forall_mem_cons.mpr ⟨⟨mw_62, 1, by decide, con_X4_tell hJ⟩, List.forall_mem_cons.mpr ⟨⟨mw_43, 0, by decide, con_X2_isMissing hJ⟩, List.forall_mem_cons.mpr ⟨⟨mw_19, 1, by decide, con_X1_keptAt hJ⟩, List.forall_mem_cons.mpr ⟨⟨mw_45, 0, by decide, con_X2_numberAt hJ⟩, fun _ h => absurd h List.not_mem_nil⟩⟩⟩⟩⟩) ok_X4_judge
def tb_X4_image : List (Option ts_I) := [some (.aload_n 0, 0, 0, []), some (.getfield 19, 3, 2, [(1141, 0)]), none, none, some (.aload_n 0, 0, 0, []), some (.getfield 10, 3, 0, [(1139, 0)]), none, none, some (.invokevirtual 210, 12, 2, [(2131, 0), (1, 0)]), none, none, some (.aload_n 0, 0, 0, []), some (.iconst 1, 1, 0, []), some (.putfield 22, 3, 3, [(1142, 1)]), none, none, some (.iconst 1, 1, 0, []), some (.ireturn, 0, 0, [])]
noncomputable def E_X4_image : ts_E := fun z => if z = 12 then F_X1_become else fun _ _ => none
noncomputable def F_X4_image : List ts_V → ts_S → Option ts_A := ts_Fn E_X4_image tb_X4_image 1
set_option maxRecDepth 20000 in
theorem ok_X4_image : ts_tbo 2 ts_mi [12] (ts_mi 111).1.cls (ts_mi 111).2.2.2.1 (ts_mi 111).2.1 0 tb_X4_image = true := by decide +kernel
theorem con_X4_image {X : ts_X} {l : Launch} (hJ : ts_J X l) : ts_Met X l (ts_mi 111) 2 F_X4_image := ts_con (ts_mi 111) 2 (E := E_X4_image) (mi := ts_mi) (cs := [12]) (tb := tb_X4_image) (plainFor_of_name (by decide +kernel)) hJ.1 (List.forall_mem_cons.mpr ⟨⟨mw_12, 1, by decide, con_X1_become hJ⟩, fun _ h => absurd h List.not_mem_nil⟩) ok_X4_image
def tb_X4_undo : List (Option ts_I) := [some (.aload_n 0, 0, 0, []), some (.getfield 22, 3, 3, [(1142, 1)]), none, none, some (.ifCond .ne 9, 13, 0, []), none, none, some (.aload_n 0, 0, 0, []), some (.iconst 3, 3, 0, []), some (.invokevirtual 48, 62, 2, [(1168, 3), (0, 0)]), none, none, some (.ireturn, 0, 0, []), some (.aload_n 0, 0, 0, []), some (.getfield 10, 3, 0, [(1139, 0)]), none, none, some (.aload_n 0, 0, 0, []), some (.getfield 19, 3, 2, [(1141, 0)]), none, none, some (.invokevirtual 210, 12, 2, [(2131, 0), (1, 0)]), none, none, some (.aload_n 0, 0, 0, []), some (.getfield 10, 3, 0, [(1139, 0)]), none, none, some (.getfield 125, 0, 2, [(1034, 0)]), none, none, some (.ireturn, 0, 0, [])]
noncomputable def E_X4_undo : ts_E := fun z => if z = 62 then F_X4_tell else if z = 12 then F_X1_become else fun _ _ => none
noncomputable def F_X4_undo : List ts_V → ts_S → Option ts_A := ts_Fn E_X4_undo tb_X4_undo 1
set_option maxRecDepth 20000 in
theorem ok_X4_undo : ts_tbo 2 ts_mi [62, 12] (ts_mi 112).1.cls (ts_mi 112).2.2.2.1 (ts_mi 112).2.1 0 tb_X4_undo = true := by decide +kernel
theorem con_X4_undo {X : ts_X} {l : Launch} (hJ : ts_J X l) : ts_Met X l (ts_mi 112) 2 F_X4_undo := ts_con (ts_mi 112) 2 (E := E_X4_undo) (mi := ts_mi) (cs := [62, 12]) (tb := tb_X4_undo) (plainFor_of_name (by decide +kernel)) hJ.1 (List.forall_mem_cons.mpr ⟨⟨mw_62, 1, by decide, con_X4_tell hJ⟩, List.forall_mem_cons.mpr ⟨⟨mw_12, 1, by decide, con_X1_become hJ⟩, fun _ h => absurd h List.not_mem_nil⟩⟩) ok_X4_undo
def tb_X4_tear : List (Option ts_I) := [some (.aload_n 0, 0, 0, []), some (.getfield 22, 3, 3, [(1142, 1)]), none, none, some (.ifCond .eq 7, 11, 0, []), none, none, some (.iconst 1, 1, 0, []), some (.goto 4, 12, 0, []), none, none, some (.iconst 0, 0, 0, []), some (.istore_n 1, 1, 0, []), some (.aload_n 0, 0, 0, []), some (.iconst 0, 0, 0, []), some (.putfield 22, 3, 3, [(1142, 1)]), none, none, some (.iload_n 1, 1, 0, []), some (.ireturn, 0, 0, [])]
noncomputable def E_X4_tear : ts_E := fun _ _ _ => none
noncomputable def F_X4_tear : List ts_V → ts_S → Option ts_A := ts_Fn E_X4_tear tb_X4_tear 2
set_option maxRecDepth 20000 in
theorem ok_X4_tear : ts_tbo 0 ts_mi [] (ts_mi 113).1.cls (ts_mi 113).2.2.2.1 (ts_mi 113).2.1 0 tb_X4_tear = true := by decide +kernel
theorem con_X4_tear {X : ts_X} {l : Launch} (hJ : ts_J X l) : ts_Met X l (ts_mi 113) 0 F_X4_tear := ts_con (ts_mi 113) 0 (E := E_X4_tear) (mi := ts_mi) (cs := []) (tb := tb_X4_tear) (plainFor_of_name (by decide +kernel)) hJ.1 (fun _ h => absurd h List.not_mem_nil) ok_X4_tear
end
section
/-! tables, part 3 -/
def tb_X4_count : List (Option ts_I) := [some (.iload_n 1, 1, 0, []), some (.tableswitch 111 0 7 #[47, 55, 63, 71, 79, 87, 95, 103], 112, 47, [(0, 48), (1, 56), (2, 64), (3, 72), (4, 80), (5, 88), (6, 96), (7, 104)]), none, none, none, none, none, none, none, none, none, none, none, none, none, none, none, none, none, none, none, none, none, none, none, none, none, none, none, none, none, none, none, none, none, none, none, none, none, none, none, none, none, none, none, none, none, none, some (.aload_n 0, 0, 0, []), some (.getfield 10, 3, 0, [(1139, 0)]), none, none, some (.getfield 125, 0, 2, [(1034, 0)]), none, none, some (.ireturn, 0, 0, []), some (.aload_n 0, 0, 0, []), some (.getfield 10, 3, 0, [(1139, 0)]), none, none, some (.getfield 163, 0, 4, [(1039, 0)]), none, none, some (.ireturn, 0, 0, []), some (.aload_n 0, 0, 0, []), some (.getfield 10, 3, 0, [(1139, 0)]), none, none, some (.getfield 240, 0, 10, [(1052, 0)]), none, none, some (.ireturn, 0, 0, []), some (.aload_n 0, 0, 0, []), some (.getfield 10, 3, 0, [(1139, 0)]), none, none, some (.getfield 134, 0, 1, [(1032, 0)]), none, none, some (.ireturn, 0, 0, []), some (.aload_n 0, 0, 0, []), some (.getfield 10, 3, 0, [(1139, 0)]), none, none, some (.invokevirtual 153, 41, 1, [(2119, 0), (0, 0)]), none, none, some (.ireturn, 0, 0, []), some (.aload_n 0, 0, 0, []), some (.getfield 29, 3, 4, [(1143, 0)]), none, none, some (.getfield 203, 2, 1, [(1103, 0)]), none, none, some (.ireturn, 0, 0, []), some (.aload_n 0, 0, 0, []), some (.getfield 10, 3, 0, [(1139, 0)]), none, none, some (.getfield 197, 0, 3, [(1036, 0)]), none, none, some (.ireturn, 0, 0, []), some (.aload_n 0, 0, 0, []), some (.getfield 10, 3, 0, [(1139, 0)]), none, none, some (.invokevirtual 251, 42, 1, [(3201, 0), (0, 0)]), none, none, some (.ireturn, 0, 0, []), some (.aload_n 0, 0, 0, []), some (.iconst 0, 0, 0, []), some (.invokevirtual 48, 62, 2, [(1168, 3), (0, 0)]), none, none, some (.ireturn, 0, 0, [])]
noncomputable def E_X4_count : ts_E := fun z => if z = 41 then F_X1_keptInAll else if z = 42 then F_X1_spotsInUse else if z = 62 then F_X4_tell else fun _ _ => none
noncomputable def F_X4_count : List ts_V → ts_S → Option ts_A := ts_Fn E_X4_count tb_X4_count 2
set_option maxRecDepth 20000 in
theorem ok_X4_count : ts_tbo 2 ts_mi [41, 42, 62] (ts_mi 114).1.cls (ts_mi 114).2.2.2.1 (ts_mi 114).2.1 0 tb_X4_count = true := by decide +kernel
theorem con_X4_count {X : ts_X} {l : Launch} (hJ : ts_J X l) : ts_Met X l (ts_mi 114) 2 F_X4_count := ts_con (ts_mi 114) 2 (E := E_X4_count) (mi := ts_mi) (cs := [41, 42, 62]) (tb := tb_X4_count) (plainFor_of_name (by decide +kernel)) hJ.1 (List.forall_mem_cons.mpr ⟨⟨mw_41, 0, by decide, con_X1_keptInAll hJ⟩, List.forall_mem_cons.mpr ⟨⟨mw_42, 0, by decide, con_X1_spotsInUse hJ⟩, List.forall_mem_cons.mpr ⟨⟨mw_62, 1, by decide, con_X4_tell hJ⟩, fun _ h => absurd h List.not_mem_nil⟩⟩⟩) ok_X4_count
def tb_X4_status : List (Option ts_I) := [some (.iload_n 1, 1, 0, []), some (.iconst (-1), 4294967295, 0, []), some (.if_icmp .ne 30, 32, 0, []), none, none, some (.iconst 0, 0, 0, []), some (.istore_n 2, 2, 0, []), some (.iconst 0, 0, 0, []), some (.istore_n 3, 3, 0, []), some (.iload_n 3, 3, 0, []), some (.bipush 7, 7, 0, []), none, some (.if_icmp .ge 18, 30, 0, []), none, none, some (.iload_n 2, 2, 0, []), some (.aload_n 0, 0, 0, []), some (.getfield 40, 3, 6, [(1145, 0)]), none, none, some (.iload_n 3, 3, 0, []), some (.iaload, 0, 0, []), some (.iadd, 0, 0, []), some (.istore_n 2, 2, 0, []), some (.iinc 3 1, 3, 1, []), none, none, some (.goto (-18), 9, 0, []), none, none, some (.iload_n 2, 2, 0, []), some (.ireturn, 0, 0, []), some (.iload_n 1, 1, 0, []), some (.bipush 7, 7, 0, []), none, some (.invokestatic 44, 13, 2, [(1165, 9), (0, 0)]), none, none, some (.ifCond .eq 12, 50, 0, []), none, none, some (.aload_n 0, 0, 0, []), some (.getfield 40, 3, 6, [(1145, 0)]), none, none, some (.iload_n 1, 1, 0, []), some (.iaload, 0, 0, []), some (.goto 8, 55, 0, []), none, none, some (.aload_n 0, 0, 0, []), some (.iconst 0, 0, 0, []), some (.invokevirtual 48, 62, 2, [(1168, 3), (0, 0)]), none, none, some (.ireturn, 0, 0, [])]
noncomputable def E_X4_status : ts_E := fun z => if z = 13 then F_X4_isBelow else if z = 62 then F_X4_tell else fun _ _ => none
noncomputable def F_X4_status : List ts_V → ts_S → Option ts_A := ts_Fn E_X4_status tb_X4_status 4
set_option maxRecDepth 20000 in
theorem ok_X4_status : ts_tbo 2 ts_mi [13, 62] (ts_mi 115).1.cls (ts_mi 115).2.2.2.1 (ts_mi 115).2.1 0 tb_X4_status = true := by decide +kernel
theorem con_X4_status {X : ts_X} {l : Launch} (hJ : ts_J X l) : ts_Met X l (ts_mi 115) 2 F_X4_status := ts_con (ts_mi 115) 2 (E := E_X4_status) (mi := ts_mi) (cs := [13, 62]) (tb := tb_X4_status) (plainFor_of_name (by decide +kernel)) hJ.1 (List.forall_mem_cons.mpr ⟨⟨mw_13, 0, by decide, con_X4_isBelow hJ⟩, List.forall_mem_cons.mpr ⟨⟨mw_62, 1, by decide, con_X4_tell hJ⟩, fun _ h => absurd h List.not_mem_nil⟩⟩) ok_X4_status
def tb_X5_finding : List (Option ts_I) := [some (.aload_n 0, 0, 0, []), some (.getfield 19, 4, 4, [(3228, 0)]), none, none, some (.ldc 60, 4293967295, 0, [(4062, 0)]), none, some (.iload_n 1, 1, 0, []), some (.isub, 0, 0, []), some (.iconst 1, 1, 0, []), some (.iadd, 0, 0, []), some (.dup2, 0, 0, []), some (.iaload, 0, 0, []), some (.iconst 1, 1, 0, []), some (.iadd, 0, 0, []), some (.iastore, 0, 0, []), some (.aload_n 0, 0, 0, []), some (.getfield 19, 4, 4, [(3228, 0)]), none, none, some (.iconst 0, 0, 0, []), some (.dup2, 0, 0, []), some (.iaload, 0, 0, []), some (.iconst 1, 1, 0, []), some (.iadd, 0, 0, []), some (.iastore, 0, 0, []), some (.iload_n 1, 1, 0, []), some (.ireturn, 0, 0, [])]
noncomputable def E_X5_finding : ts_E := fun _ _ _ => none
noncomputable def F_X5_finding : List ts_V → ts_S → Option ts_A := ts_Fn E_X5_finding tb_X5_finding 2
set_option maxRecDepth 20000 in
theorem ok_X5_finding : ts_tbo 0 ts_mi [] (ts_mi 116).1.cls (ts_mi 116).2.2.2.1 (ts_mi 116).2.1 0 tb_X5_finding = true := by decide +kernel
theorem con_X5_finding {X : ts_X} {l : Launch} (hJ : ts_J X l) : ts_Met X l (ts_mi 116) 0 F_X5_finding := ts_con (ts_mi 116) 0 (E := E_X5_finding) (mi := ts_mi) (cs := []) (tb := tb_X5_finding) (plainFor_of_name (by decide +kernel)) hJ.1 (fun _ h => absurd h List.not_mem_nil) ok_X5_finding
def tb_X5_within : List (Option ts_I) := [some (.iload_n 0, 0, 0, []), some (.iload_n 1, 1, 0, []), some (.if_icmp .lt 12, 14, 0, []), none, none, some (.iload_n 0, 0, 0, []), some (.iload_n 2, 2, 0, []), some (.if_icmp .gt 7, 14, 0, []), none, none, some (.iconst 1, 1, 0, []), some (.goto 4, 15, 0, []), none, none, some (.iconst 0, 0, 0, []), some (.ireturn, 1, 0, [])]
noncomputable def E_X5_within : ts_E := fun _ _ _ => none
noncomputable def F_X5_within : List ts_V → ts_S → Option ts_A := ts_Fn E_X5_within tb_X5_within 3
set_option maxRecDepth 20000 in
theorem ok_X5_within : ts_tbo 0 ts_mi [] (ts_mi 117).1.cls (ts_mi 117).2.2.2.1 (ts_mi 117).2.1 0 tb_X5_within = true := by decide +kernel
theorem con_X5_within {X : ts_X} {l : Launch} (hJ : ts_J X l) : ts_Met X l (ts_mi 117) 0 F_X5_within := ts_con (ts_mi 117) 0 (E := E_X5_within) (mi := ts_mi) (cs := []) (tb := tb_X5_within) (plainFor_of_name (by decide +kernel)) hJ.1 (fun _ h => absurd h List.not_mem_nil) ok_X5_within
def tb_X5_become : List (Option ts_I) := [some (.aload_n 0, 0, 0, []), some (.getfield 9, 4, 0, [(3224, 0)]), none, none, some (.iload_n 1, 1, 0, []), some (.iaload, 0, 0, []), some (.istore_n 3, 3, 0, []), some (.aload_n 0, 0, 0, []), some (.getfield 9, 4, 0, [(3224, 0)]), none, none, some (.iload_n 1, 1, 0, []), some (.iload_n 2, 2, 0, []), some (.iastore, 0, 0, []), some (.iload_n 3, 3, 0, []), some (.ireturn, 0, 0, [])]
noncomputable def E_X5_become : ts_E := fun _ _ _ => none
noncomputable def F_X5_become : List ts_V → ts_S → Option ts_A := ts_Fn E_X5_become tb_X5_become 4
set_option maxRecDepth 20000 in
theorem ok_X5_become : ts_tbo 0 ts_mi [] (ts_mi 118).1.cls (ts_mi 118).2.2.2.1 (ts_mi 118).2.1 0 tb_X5_become = true := by decide +kernel
theorem con_X5_become {X : ts_X} {l : Launch} (hJ : ts_J X l) : ts_Met X l (ts_mi 118) 0 F_X5_become := ts_con (ts_mi 118) 0 (E := E_X5_become) (mi := ts_mi) (cs := []) (tb := tb_X5_become) (plainFor_of_name (by decide +kernel)) hJ.1 (fun _ h => absurd h List.not_mem_nil) ok_X5_become
def tb_X5_copyRow : List (Option ts_I) := [some (.iconst 0, 0, 0, []), some (.istore_n 2, 2, 0, []), some (.iload_n 2, 2, 0, []), some (.bipush 111, 111, 0, []), none, some (.if_icmp .ge 15, 20, 0, []), none, none, some (.aload_n 1, 1, 0, []), some (.iload_n 2, 2, 0, []), some (.aload_n 0, 0, 0, []), some (.iload_n 2, 2, 0, []), some (.iaload, 0, 0, []), some (.iastore, 0, 0, []), some (.iinc 2 1, 2, 1, []), none, none, some (.goto (-15), 2, 0, []), none, none, some (.return_, 0, 0, [])]
noncomputable def E_X5_copyRow : ts_E := fun _ _ _ => none
noncomputable def F_X5_copyRow : List ts_V → ts_S → Option ts_A := ts_Fn E_X5_copyRow tb_X5_copyRow 3
set_option maxRecDepth 20000 in
theorem ok_X5_copyRow : ts_tbo 0 ts_mi [] (ts_mi 119).1.cls (ts_mi 119).2.2.2.1 (ts_mi 119).2.1 0 tb_X5_copyRow = true := by decide +kernel
theorem con_X5_copyRow {X : ts_X} {l : Launch} (hJ : ts_J X l) : ts_Met X l (ts_mi 119) 0 F_X5_copyRow := ts_con (ts_mi 119) 0 (E := E_X5_copyRow) (mi := ts_mi) (cs := []) (tb := tb_X5_copyRow) (plainFor_of_name (by decide +kernel)) hJ.1 (fun _ h => absurd h List.not_mem_nil) ok_X5_copyRow
def tb_X5_putBack : List (Option ts_I) := [some (.aload_n 0, 0, 0, []), some (.getfield 16, 4, 2, [(3226, 0)]), none, none, some (.aload_n 0, 0, 0, []), some (.getfield 9, 4, 0, [(3224, 0)]), none, none, some (.invokestatic 61, 119, 2, [(5017, 9), (1, 0)]), none, none, some (.iload_n 1, 1, 0, []), some (.ireturn, 0, 0, [])]
noncomputable def E_X5_putBack : ts_E := fun z => if z = 119 then F_X5_copyRow else fun _ _ => none
noncomputable def F_X5_putBack : List ts_V → ts_S → Option ts_A := ts_Fn E_X5_putBack tb_X5_putBack 2
set_option maxRecDepth 20000 in
theorem ok_X5_putBack : ts_tbo 1 ts_mi [119] (ts_mi 120).1.cls (ts_mi 120).2.2.2.1 (ts_mi 120).2.1 0 tb_X5_putBack = true := by decide +kernel
theorem con_X5_putBack {X : ts_X} {l : Launch} (hJ : ts_J X l) : ts_Met X l (ts_mi 120) 1 F_X5_putBack := ts_con (ts_mi 120) 1 (E := E_X5_putBack) (mi := ts_mi) (cs := [119]) (tb := tb_X5_putBack) (plainFor_of_name (by decide +kernel)) hJ.1 (List.forall_mem_cons.mpr ⟨⟨mw_119, 0, by decide, con_X5_copyRow hJ⟩, fun _ h => absurd h List.not_mem_nil⟩) ok_X5_putBack
def tb_X5_orNone : List (Option ts_I) := [some (.iload_n 1, 1, 0, []), some (.ifCond .ge 12, 13, 0, []), none, none, some (.aload_n 0, 0, 0, []), some (.ldc 65, 4293967292, 0, [(4136, 0)]), none, some (.invokevirtual 66, 116, 2, [(4063, 4), (0, 0)]), none, none, some (.goto 4, 14, 0, []), none, none, some (.iload_n 1, 1, 0, []), some (.ireturn, 0, 0, [])]
noncomputable def E_X5_orNone : ts_E := fun z => if z = 116 then F_X5_finding else fun _ _ => none
noncomputable def F_X5_orNone : List ts_V → ts_S → Option ts_A := ts_Fn E_X5_orNone tb_X5_orNone 2
set_option maxRecDepth 20000 in
theorem ok_X5_orNone : ts_tbo 1 ts_mi [116] (ts_mi 121).1.cls (ts_mi 121).2.2.2.1 (ts_mi 121).2.1 0 tb_X5_orNone = true := by decide +kernel
theorem con_X5_orNone {X : ts_X} {l : Launch} (hJ : ts_J X l) : ts_Met X l (ts_mi 121) 1 F_X5_orNone := ts_con (ts_mi 121) 1 (E := E_X5_orNone) (mi := ts_mi) (cs := [116]) (tb := tb_X5_orNone) (plainFor_of_name (by decide +kernel)) hJ.1 (List.forall_mem_cons.mpr ⟨⟨mw_116, 0, by decide, con_X5_finding hJ⟩, fun _ h => absurd h List.not_mem_nil⟩) ok_X5_orNone
def tb_X5_bits : List (Option ts_I) := [some (.iconst 0, 0, 0, []), some (.istore_n 1, 1, 0, []), some (.iload_n 0, 0, 0, []), some (.istore_n 2, 2, 0, []), some (.iload_n 2, 2, 0, []), some (.ifCond .eq 15, 20, 0, []), none, none, some (.iinc 1 1, 1, 1, []), none, none, some (.iload_n 2, 2, 0, []), some (.iload_n 2, 2, 0, []), some (.iconst 1, 1, 0, []), some (.isub, 0, 0, []), some (.iand, 0, 0, []), some (.istore_n 2, 2, 0, []), some (.goto (-13), 4, 0, []), none, none, some (.iload_n 1, 1, 0, []), some (.ireturn, 0, 0, [])]
noncomputable def E_X5_bits : ts_E := fun _ _ _ => none
noncomputable def F_X5_bits : List ts_V → ts_S → Option ts_A := ts_Fn E_X5_bits tb_X5_bits 3
set_option maxRecDepth 20000 in
theorem ok_X5_bits : ts_tbo 0 ts_mi [] (ts_mi 122).1.cls (ts_mi 122).2.2.2.1 (ts_mi 122).2.1 0 tb_X5_bits = true := by decide +kernel
theorem con_X5_bits {X : ts_X} {l : Launch} (hJ : ts_J X l) : ts_Met X l (ts_mi 122) 0 F_X5_bits := ts_con (ts_mi 122) 0 (E := E_X5_bits) (mi := ts_mi) (cs := []) (tb := tb_X5_bits) (plainFor_of_name (by decide +kernel)) hJ.1 (fun _ h => absurd h List.not_mem_nil) ok_X5_bits
def tb_X5_isSet : List (Option ts_I) := [some (.iload_n 0, 0, 0, []), some (.iconst 0, 0, 0, []), some (.sipush 4095, 4095, 0, []), none, none, some (.invokestatic 70, 117, 3, [(4055, 9), (0, 0)]), none, none, some (.ireturn, 1, 0, [])]
noncomputable def E_X5_isSet : ts_E := fun z => if z = 117 then F_X5_within else fun _ _ => none
noncomputable def F_X5_isSet : List ts_V → ts_S → Option ts_A := ts_Fn E_X5_isSet tb_X5_isSet 1
set_option maxRecDepth 20000 in
theorem ok_X5_isSet : ts_tbo 1 ts_mi [117] (ts_mi 123).1.cls (ts_mi 123).2.2.2.1 (ts_mi 123).2.1 0 tb_X5_isSet = true := by decide +kernel
theorem con_X5_isSet {X : ts_X} {l : Launch} (hJ : ts_J X l) : ts_Met X l (ts_mi 123) 1 F_X5_isSet := ts_con (ts_mi 123) 1 (E := E_X5_isSet) (mi := ts_mi) (cs := [117]) (tb := tb_X5_isSet) (plainFor_of_name (by decide +kernel)) hJ.1 (List.forall_mem_cons.mpr ⟨⟨mw_117, 0, by decide, con_X5_within hJ⟩, fun _ h => absurd h List.not_mem_nil⟩) ok_X5_isSet
def tb_X5_isWordNumber : List (Option ts_I) := [some (.iload_n 0, 0, 0, []), some (.iconst 0, 0, 0, []), some (.bipush 11, 11, 0, []), none, some (.invokestatic 70, 117, 3, [(4055, 9), (0, 0)]), none, none, some (.ireturn, 1, 0, [])]
noncomputable def E_X5_isWordNumber : ts_E := fun z => if z = 117 then F_X5_within else fun _ _ => none
noncomputable def F_X5_isWordNumber : List ts_V → ts_S → Option ts_A := ts_Fn E_X5_isWordNumber tb_X5_isWordNumber 1
set_option maxRecDepth 20000 in
theorem ok_X5_isWordNumber : ts_tbo 1 ts_mi [117] (ts_mi 124).1.cls (ts_mi 124).2.2.2.1 (ts_mi 124).2.1 0 tb_X5_isWordNumber = true := by decide +kernel
theorem con_X5_isWordNumber {X : ts_X} {l : Launch} (hJ : ts_J X l) : ts_Met X l (ts_mi 124) 1 F_X5_isWordNumber := ts_con (ts_mi 124) 1 (E := E_X5_isWordNumber) (mi := ts_mi) (cs := [117]) (tb := tb_X5_isWordNumber) (plainFor_of_name (by decide +kernel)) hJ.1 (List.forall_mem_cons.mpr ⟨⟨mw_117, 0, by decide, con_X5_within hJ⟩, fun _ h => absurd h List.not_mem_nil⟩) ok_X5_isWordNumber
def tb_X5_isPlace : List (Option ts_I) := [some (.iload_n 0, 0, 0, []), some (.iconst 0, 0, 0, []), some (.iconst 5, 5, 0, []), some (.invokestatic 70, 117, 3, [(4055, 9), (0, 0)]), none, none, some (.ireturn, 1, 0, [])]
noncomputable def E_X5_isPlace : ts_E := fun z => if z = 117 then F_X5_within else fun _ _ => none
noncomputable def F_X5_isPlace : List ts_V → ts_S → Option ts_A := ts_Fn E_X5_isPlace tb_X5_isPlace 1
set_option maxRecDepth 20000 in
theorem ok_X5_isPlace : ts_tbo 1 ts_mi [117] (ts_mi 125).1.cls (ts_mi 125).2.2.2.1 (ts_mi 125).2.1 0 tb_X5_isPlace = true := by decide +kernel
theorem con_X5_isPlace {X : ts_X} {l : Launch} (hJ : ts_J X l) : ts_Met X l (ts_mi 125) 1 F_X5_isPlace := ts_con (ts_mi 125) 1 (E := E_X5_isPlace) (mi := ts_mi) (cs := [117]) (tb := tb_X5_isPlace) (plainFor_of_name (by decide +kernel)) hJ.1 (List.forall_mem_cons.mpr ⟨⟨mw_117, 0, by decide, con_X5_within hJ⟩, fun _ h => absurd h List.not_mem_nil⟩) ok_X5_isPlace
def tb_X5_list : List (Option ts_I) := [some (.iload_n 1, 1, 0, []), some (.invokestatic 74, 125, 1, [(4052, 9), (0, 0)]), none, none, some (.ifCond .eq 38, 42, 0, []), none, none, some (.iload_n 2, 2, 0, []), some (.iconst 0, 0, 0, []), some (.iconst 5, 5, 0, []), some (.invokestatic 70, 117, 3, [(4055, 9), (0, 0)]), none, none, some (.ifCond .eq 29, 42, 0, []), none, none, some (.iload_n 3, 3, 0, []), some (.iconst 0, 0, 0, []), some (.bipush 7, 7, 0, []), none, some (.invokestatic 70, 117, 3, [(4055, 9), (0, 0)]), none, none, some (.ifCond .eq 19, 42, 0, []), none, none, some (.aload_n 0, 0, 0, []), some (.iconst 5, 5, 0, []), some (.iload_n 1, 1, 0, []), some (.iadd, 0, 0, []), some (.bipush 10, 10, 0, []), none, some (.iload_n 2, 2, 0, []), some (.imul, 0, 0, []), some (.iload_n 3, 3, 0, []), some (.iadd, 0, 0, []), some (.invokevirtual 78, 118, 3, [(4058, 4), (0, 0)]), none, none, some (.goto 9, 48, 0, []), none, none, some (.aload_n 0, 0, 0, []), some (.ldc 60, 4293967295, 0, [(4062, 0)]), none, some (.invokevirtual 66, 116, 2, [(4063, 4), (0, 0)]), none, none, some (.ireturn, 0, 0, [])]
noncomputable def E_X5_list : ts_E := fun z => if z = 125 then F_X5_isPlace else if z = 117 then F_X5_within else if z = 118 then F_X5_become else if z = 116 then F_X5_finding else fun _ _ => none
noncomputable def F_X5_list : List ts_V → ts_S → Option ts_A := ts_Fn E_X5_list tb_X5_list 4
set_option maxRecDepth 20000 in
theorem ok_X5_list : ts_tbo 2 ts_mi [125, 117, 118, 116] (ts_mi 126).1.cls (ts_mi 126).2.2.2.1 (ts_mi 126).2.1 0 tb_X5_list = true := by decide +kernel
theorem con_X5_list {X : ts_X} {l : Launch} (hJ : ts_J X l) : ts_Met X l (ts_mi 126) 2 F_X5_list := ts_con (ts_mi 126) 2 (E := E_X5_list) (mi := ts_mi) (cs := [125, 117, 118, 116]) (tb := tb_X5_list) (plainFor_of_name (by decide +kernel)) hJ.1 (List.forall_mem_cons.mpr ⟨⟨mw_125, 1, by decide, con_X5_isPlace hJ⟩, List.forall_mem_cons.mpr ⟨⟨mw_117, 0, by decide, con_X5_within hJ⟩, List.forall_mem_cons.mpr ⟨⟨mw_118, 0, by decide, con_X5_become hJ⟩, List.forall_mem_cons.mpr ⟨⟨mw_116, 0, by decide, con_X5_finding hJ⟩, fun _ h => absurd h List.not_mem_nil⟩⟩⟩⟩) ok_X5_list
def tb_X5_listed : List (Option ts_I) := [some (.iload_n 1, 1, 0, []), some (.invokestatic 74, 125, 1, [(4052, 9), (0, 0)]), none, none, some (.ifCond .eq 14, 18, 0, []), none, none, some (.aload_n 0, 0, 0, []), some (.getfield 9, 4, 0, [(3224, 0)]), none, none, some (.iconst 5, 5, 0, []), some (.iload_n 1, 1, 0, []), some (.iadd, 0, 0, []), some (.iaload, 0, 0, []), some (.goto 9, 24, 0, []), none, none, some (.aload_n 0, 0, 0, []), some (.ldc 60, 4293967295, 0, [(4062, 0)]), none, some (.invokevirtual 66, 116, 2, [(4063, 4), (0, 0)]), none, none, some (.ireturn, 0, 0, [])]
noncomputable def E_X5_listed : ts_E := fun z => if z = 125 then F_X5_isPlace else if z = 116 then F_X5_finding else fun _ _ => none
noncomputable def F_X5_listed : List ts_V → ts_S → Option ts_A := ts_Fn E_X5_listed tb_X5_listed 2
set_option maxRecDepth 20000 in
theorem ok_X5_listed : ts_tbo 2 ts_mi [125, 116] (ts_mi 127).1.cls (ts_mi 127).2.2.2.1 (ts_mi 127).2.1 0 tb_X5_listed = true := by decide +kernel
theorem con_X5_listed {X : ts_X} {l : Launch} (hJ : ts_J X l) : ts_Met X l (ts_mi 127) 2 F_X5_listed := ts_con (ts_mi 127) 2 (E := E_X5_listed) (mi := ts_mi) (cs := [125, 116]) (tb := tb_X5_listed) (plainFor_of_name (by decide +kernel)) hJ.1 (List.forall_mem_cons.mpr ⟨⟨mw_125, 1, by decide, con_X5_isPlace hJ⟩, List.forall_mem_cons.mpr ⟨⟨mw_116, 0, by decide, con_X5_finding hJ⟩, fun _ h => absurd h List.not_mem_nil⟩⟩) ok_X5_listed
def tb_X5_placeNow : List (Option ts_I) := [some (.iconst 5, 5, 0, []), some (.aload_n 0, 0, 0, []), some (.getfield 9, 4, 0, [(3224, 0)]), none, none, some (.iconst 0, 0, 0, []), some (.iaload, 0, 0, []), some (.bipush 6, 6, 0, []), none, some (.irem, 0, 0, []), some (.iadd, 0, 0, []), some (.ireturn, 0, 0, [])]
noncomputable def E_X5_placeNow : ts_E := fun _ _ _ => none
noncomputable def F_X5_placeNow : List ts_V → ts_S → Option ts_A := ts_Fn E_X5_placeNow tb_X5_placeNow 1
set_option maxRecDepth 20000 in
theorem ok_X5_placeNow : ts_tbo 0 ts_mi [] (ts_mi 128).1.cls (ts_mi 128).2.2.2.1 (ts_mi 128).2.1 0 tb_X5_placeNow = true := by decide +kernel
theorem con_X5_placeNow {X : ts_X} {l : Launch} (hJ : ts_J X l) : ts_Met X l (ts_mi 128) 0 F_X5_placeNow := ts_con (ts_mi 128) 0 (E := E_X5_placeNow) (mi := ts_mi) (cs := []) (tb := tb_X5_placeNow) (plainFor_of_name (by decide +kernel)) hJ.1 (fun _ h => absurd h List.not_mem_nil) ok_X5_placeNow
def tb_X5_sillAt : List (Option ts_I) := [some (.bipush 21, 21, 0, []), none, some (.bipush 9, 9, 0, []), none, some (.iload_n 0, 0, 0, []), some (.imul, 0, 0, []), some (.iadd, 0, 0, []), some (.iload_n 1, 1, 0, []), some (.iadd, 0, 0, []), some (.ireturn, 0, 0, [])]
noncomputable def E_X5_sillAt : ts_E := fun _ _ _ => none
noncomputable def F_X5_sillAt : List ts_V → ts_S → Option ts_A := ts_Fn E_X5_sillAt tb_X5_sillAt 2
set_option maxRecDepth 20000 in
theorem ok_X5_sillAt : ts_tbo 0 ts_mi [] (ts_mi 129).1.cls (ts_mi 129).2.2.2.1 (ts_mi 129).2.1 0 tb_X5_sillAt = true := by decide +kernel
theorem con_X5_sillAt {X : ts_X} {l : Launch} (hJ : ts_J X l) : ts_Met X l (ts_mi 129) 0 F_X5_sillAt := ts_con (ts_mi 129) 0 (E := E_X5_sillAt) (mi := ts_mi) (cs := []) (tb := tb_X5_sillAt) (plainFor_of_name (by decide +kernel)) hJ.1 (fun _ h => absurd h List.not_mem_nil) ok_X5_sillAt
def tb_X5_sillIs : List (Option ts_I) := [some (.aload_n 0, 0, 0, []), some (.getfield 9, 4, 0, [(3224, 0)]), none, none, some (.iload_n 1, 1, 0, []), some (.iload_n 2, 2, 0, []), some (.invokestatic 82, 129, 2, [(4083, 9), (0, 0)]), none, none, some (.iaload, 0, 0, []), some (.ireturn, 0, 0, [])]
noncomputable def E_X5_sillIs : ts_E := fun z => if z = 129 then F_X5_sillAt else fun _ _ => none
noncomputable def F_X5_sillIs : List ts_V → ts_S → Option ts_A := ts_Fn E_X5_sillIs tb_X5_sillIs 3
set_option maxRecDepth 20000 in
theorem ok_X5_sillIs : ts_tbo 1 ts_mi [129] (ts_mi 130).1.cls (ts_mi 130).2.2.2.1 (ts_mi 130).2.1 0 tb_X5_sillIs = true := by decide +kernel
theorem con_X5_sillIs {X : ts_X} {l : Launch} (hJ : ts_J X l) : ts_Met X l (ts_mi 130) 1 F_X5_sillIs := ts_con (ts_mi 130) 1 (E := E_X5_sillIs) (mi := ts_mi) (cs := [129]) (tb := tb_X5_sillIs) (plainFor_of_name (by decide +kernel)) hJ.1 (List.forall_mem_cons.mpr ⟨⟨mw_129, 0, by decide, con_X5_sillAt hJ⟩, fun _ h => absurd h List.not_mem_nil⟩) ok_X5_sillIs
def tb_X5_isSill : List (Option ts_I) := [some (.iload_n 1, 1, 0, []), some (.iconst 0, 0, 0, []), some (.aload_n 0, 0, 0, []), some (.getfield 9, 4, 0, [(3224, 0)]), none, none, some (.iconst 1, 1, 0, []), some (.iaload, 0, 0, []), some (.iconst 1, 1, 0, []), some (.isub, 0, 0, []), some (.invokestatic 70, 117, 3, [(4055, 9), (0, 0)]), none, none, some (.ireturn, 1, 0, [])]
noncomputable def E_X5_isSill : ts_E := fun z => if z = 117 then F_X5_within else fun _ _ => none
noncomputable def F_X5_isSill : List ts_V → ts_S → Option ts_A := ts_Fn E_X5_isSill tb_X5_isSill 2
set_option maxRecDepth 20000 in
theorem ok_X5_isSill : ts_tbo 1 ts_mi [117] (ts_mi 131).1.cls (ts_mi 131).2.2.2.1 (ts_mi 131).2.1 0 tb_X5_isSill = true := by decide +kernel
theorem con_X5_isSill {X : ts_X} {l : Launch} (hJ : ts_J X l) : ts_Met X l (ts_mi 131) 1 F_X5_isSill := ts_con (ts_mi 131) 1 (E := E_X5_isSill) (mi := ts_mi) (cs := [117]) (tb := tb_X5_isSill) (plainFor_of_name (by decide +kernel)) hJ.1 (List.forall_mem_cons.mpr ⟨⟨mw_117, 0, by decide, con_X5_within hJ⟩, fun _ h => absurd h List.not_mem_nil⟩) ok_X5_isSill
def tb_X5_personAt : List (Option ts_I) := [some (.bipush 93, 93, 0, []), none, some (.iconst 3, 3, 0, []), some (.iload_n 0, 0, 0, []), some (.imul, 0, 0, []), some (.iadd, 0, 0, []), some (.iload_n 1, 1, 0, []), some (.iadd, 0, 0, []), some (.ireturn, 0, 0, [])]
noncomputable def E_X5_personAt : ts_E := fun _ _ _ => none
noncomputable def F_X5_personAt : List ts_V → ts_S → Option ts_A := ts_Fn E_X5_personAt tb_X5_personAt 2
set_option maxRecDepth 20000 in
theorem ok_X5_personAt : ts_tbo 0 ts_mi [] (ts_mi 132).1.cls (ts_mi 132).2.2.2.1 (ts_mi 132).2.1 0 tb_X5_personAt = true := by decide +kernel
theorem con_X5_personAt {X : ts_X} {l : Launch} (hJ : ts_J X l) : ts_Met X l (ts_mi 132) 0 F_X5_personAt := ts_con (ts_mi 132) 0 (E := E_X5_personAt) (mi := ts_mi) (cs := []) (tb := tb_X5_personAt) (plainFor_of_name (by decide +kernel)) hJ.1 (fun _ h => absurd h List.not_mem_nil) ok_X5_personAt
def tb_X5_personIs : List (Option ts_I) := [some (.aload_n 0, 0, 0, []), some (.getfield 9, 4, 0, [(3224, 0)]), none, none, some (.iload_n 1, 1, 0, []), some (.iload_n 2, 2, 0, []), some (.invokestatic 85, 132, 2, [(4097, 9), (0, 0)]), none, none, some (.iaload, 0, 0, []), some (.ireturn, 0, 0, [])]
noncomputable def E_X5_personIs : ts_E := fun z => if z = 132 then F_X5_personAt else fun _ _ => none
noncomputable def F_X5_personIs : List ts_V → ts_S → Option ts_A := ts_Fn E_X5_personIs tb_X5_personIs 3
set_option maxRecDepth 20000 in
theorem ok_X5_personIs : ts_tbo 1 ts_mi [132] (ts_mi 133).1.cls (ts_mi 133).2.2.2.1 (ts_mi 133).2.1 0 tb_X5_personIs = true := by decide +kernel
theorem con_X5_personIs {X : ts_X} {l : Launch} (hJ : ts_J X l) : ts_Met X l (ts_mi 133) 1 F_X5_personIs := ts_con (ts_mi 133) 1 (E := E_X5_personIs) (mi := ts_mi) (cs := [132]) (tb := tb_X5_personIs) (plainFor_of_name (by decide +kernel)) hJ.1 (List.forall_mem_cons.mpr ⟨⟨mw_132, 0, by decide, con_X5_personAt hJ⟩, fun _ h => absurd h List.not_mem_nil⟩) ok_X5_personIs
def tb_X5_isPerson : List (Option ts_I) := [some (.iload_n 1, 1, 0, []), some (.iconst 0, 0, 0, []), some (.aload_n 0, 0, 0, []), some (.getfield 9, 4, 0, [(3224, 0)]), none, none, some (.iconst 3, 3, 0, []), some (.iaload, 0, 0, []), some (.iconst 1, 1, 0, []), some (.isub, 0, 0, []), some (.invokestatic 70, 117, 3, [(4055, 9), (0, 0)]), none, none, some (.ireturn, 1, 0, [])]
noncomputable def E_X5_isPerson : ts_E := fun z => if z = 117 then F_X5_within else fun _ _ => none
noncomputable def F_X5_isPerson : List ts_V → ts_S → Option ts_A := ts_Fn E_X5_isPerson tb_X5_isPerson 2
set_option maxRecDepth 20000 in
theorem ok_X5_isPerson : ts_tbo 1 ts_mi [117] (ts_mi 134).1.cls (ts_mi 134).2.2.2.1 (ts_mi 134).2.1 0 tb_X5_isPerson = true := by decide +kernel
theorem con_X5_isPerson {X : ts_X} {l : Launch} (hJ : ts_J X l) : ts_Met X l (ts_mi 134) 1 F_X5_isPerson := ts_con (ts_mi 134) 1 (E := E_X5_isPerson) (mi := ts_mi) (cs := [117]) (tb := tb_X5_isPerson) (plainFor_of_name (by decide +kernel)) hJ.1 (List.forall_mem_cons.mpr ⟨⟨mw_117, 0, by decide, con_X5_within hJ⟩, fun _ h => absurd h List.not_mem_nil⟩) ok_X5_isPerson
def tb_X5_isKind : List (Option ts_I) := [some (.iload_n 0, 0, 0, []), some (.iconst 0, 0, 0, []), some (.bipush 6, 6, 0, []), none, some (.invokestatic 70, 117, 3, [(4055, 9), (0, 0)]), none, none, some (.ireturn, 1, 0, [])]
noncomputable def E_X5_isKind : ts_E := fun z => if z = 117 then F_X5_within else fun _ _ => none
noncomputable def F_X5_isKind : List ts_V → ts_S → Option ts_A := ts_Fn E_X5_isKind tb_X5_isKind 1
set_option maxRecDepth 20000 in
theorem ok_X5_isKind : ts_tbo 1 ts_mi [117] (ts_mi 135).1.cls (ts_mi 135).2.2.2.1 (ts_mi 135).2.1 0 tb_X5_isKind = true := by decide +kernel
theorem con_X5_isKind {X : ts_X} {l : Launch} (hJ : ts_J X l) : ts_Met X l (ts_mi 135) 1 F_X5_isKind := ts_con (ts_mi 135) 1 (E := E_X5_isKind) (mi := ts_mi) (cs := [117]) (tb := tb_X5_isKind) (plainFor_of_name (by decide +kernel)) hJ.1 (List.forall_mem_cons.mpr ⟨⟨mw_117, 0, by decide, con_X5_within hJ⟩, fun _ h => absurd h List.not_mem_nil⟩) ok_X5_isKind
def tb_X5_comes : List (Option ts_I) := [some (.aload_n 0, 0, 0, []), some (.getfield 9, 4, 0, [(3224, 0)]), none, none, some (.iconst 1, 1, 0, []), some (.iaload, 0, 0, []), some (.istore_n 2, 2, 0, []), some (.iconst 0, 0, 0, []), some (.istore_n 3, 3, 0, []), some (.iload_n 3, 3, 0, []), some (.bipush 9, 9, 0, []), none, some (.if_icmp .ge 20, 32, 0, []), none, none, some (.aload_n 0, 0, 0, []), some (.getfield 9, 4, 0, [(3224, 0)]), none, none, some (.iload_n 2, 2, 0, []), some (.iload_n 3, 3, 0, []), some (.invokestatic 82, 129, 2, [(4083, 9), (0, 0)]), none, none, some (.iconst 0, 0, 0, []), some (.iastore, 0, 0, []), some (.iinc 3 1, 3, 1, []), none, none, some (.goto (-20), 9, 0, []), none, none, some (.aload_n 0, 0, 0, []), some (.getfield 9, 4, 0, [(3224, 0)]), none, none, some (.iload_n 2, 2, 0, []), some (.iconst 0, 0, 0, []), some (.invokestatic 82, 129, 2, [(4083, 9), (0, 0)]), none, none, some (.iload_n 1, 1, 0, []), some (.iastore, 0, 0, []), some (.aload_n 0, 0, 0, []), some (.getfield 9, 4, 0, [(3224, 0)]), none, none, some (.iconst 1, 1, 0, []), some (.dup2, 0, 0, []), some (.iaload, 0, 0, []), some (.iconst 1, 1, 0, []), some (.iadd, 0, 0, []), some (.iastore, 0, 0, []), some (.iload_n 2, 2, 0, []), some (.ireturn, 0, 0, [])]
noncomputable def E_X5_comes : ts_E := fun z => if z = 129 then F_X5_sillAt else fun _ _ => none
noncomputable def F_X5_comes : List ts_V → ts_S → Option ts_A := ts_Fn E_X5_comes tb_X5_comes 4
set_option maxRecDepth 20000 in
theorem ok_X5_comes : ts_tbo 1 ts_mi [129] (ts_mi 136).1.cls (ts_mi 136).2.2.2.1 (ts_mi 136).2.1 0 tb_X5_comes = true := by decide +kernel
theorem con_X5_comes {X : ts_X} {l : Launch} (hJ : ts_J X l) : ts_Met X l (ts_mi 136) 1 F_X5_comes := ts_con (ts_mi 136) 1 (E := E_X5_comes) (mi := ts_mi) (cs := [129]) (tb := tb_X5_comes) (plainFor_of_name (by decide +kernel)) hJ.1 (List.forall_mem_cons.mpr ⟨⟨mw_129, 0, by decide, con_X5_sillAt hJ⟩, fun _ h => absurd h List.not_mem_nil⟩) ok_X5_comes
def tb_X5_sill : List (Option ts_I) := [some (.iload_n 1, 1, 0, []), some (.invokestatic 88, 135, 1, [(4075, 9), (0, 0)]), none, none, some (.ifCond .ne 10, 14, 0, []), none, none, some (.aload_n 0, 0, 0, []), some (.ldc 60, 4293967295, 0, [(4062, 0)]), none, some (.invokevirtual 66, 116, 2, [(4063, 4), (0, 0)]), none, none, some (.ireturn, 0, 0, []), some (.aload_n 0, 0, 0, []), some (.getfield 9, 4, 0, [(3224, 0)]), none, none, some (.iconst 1, 1, 0, []), some (.iaload, 0, 0, []), some (.bipush 8, 8, 0, []), none, some (.if_icmp .ne 12, 34, 0, []), none, none, some (.aload_n 0, 0, 0, []), some (.ldc 91, 4293967294, 0, [(4078, 0)]), none, some (.invokevirtual 66, 116, 2, [(4063, 4), (0, 0)]), none, none, some (.goto 8, 39, 0, []), none, none, some (.aload_n 0, 0, 0, []), some (.iload_n 1, 1, 0, []), some (.invokevirtual 92, 136, 2, [(4079, 4), (0, 0)]), none, none, some (.ireturn, 0, 0, [])]
noncomputable def E_X5_sill : ts_E := fun z => if z = 135 then F_X5_isKind else if z = 116 then F_X5_finding else if z = 136 then F_X5_comes else fun _ _ => none
noncomputable def F_X5_sill : List ts_V → ts_S → Option ts_A := ts_Fn E_X5_sill tb_X5_sill 2
set_option maxRecDepth 20000 in
theorem ok_X5_sill : ts_tbo 2 ts_mi [135, 116, 136] (ts_mi 137).1.cls (ts_mi 137).2.2.2.1 (ts_mi 137).2.1 0 tb_X5_sill = true := by decide +kernel
theorem con_X5_sill {X : ts_X} {l : Launch} (hJ : ts_J X l) : ts_Met X l (ts_mi 137) 2 F_X5_sill := ts_con (ts_mi 137) 2 (E := E_X5_sill) (mi := ts_mi) (cs := [135, 116, 136]) (tb := tb_X5_sill) (plainFor_of_name (by decide +kernel)) hJ.1 (List.forall_mem_cons.mpr ⟨⟨mw_135, 1, by decide, con_X5_isKind hJ⟩, List.forall_mem_cons.mpr ⟨⟨mw_116, 0, by decide, con_X5_finding hJ⟩, List.forall_mem_cons.mpr ⟨⟨mw_136, 1, by decide, con_X5_comes hJ⟩, fun _ h => absurd h List.not_mem_nil⟩⟩⟩) ok_X5_sill
def tb_X5_onePersonMore : List (Option ts_I) := [some (.aload_n 0, 0, 0, []), some (.getfield 9, 4, 0, [(3224, 0)]), none, none, some (.iconst 3, 3, 0, []), some (.iaload, 0, 0, []), some (.istore_n 2, 2, 0, []), some (.aload_n 0, 0, 0, []), some (.getfield 9, 4, 0, [(3224, 0)]), none, none, some (.iload_n 2, 2, 0, []), some (.iconst 0, 0, 0, []), some (.invokestatic 85, 132, 2, [(4097, 9), (0, 0)]), none, none, some (.iload_n 1, 1, 0, []), some (.iastore, 0, 0, []), some (.aload_n 0, 0, 0, []), some (.getfield 9, 4, 0, [(3224, 0)]), none, none, some (.iload_n 2, 2, 0, []), some (.iconst 1, 1, 0, []), some (.invokestatic 85, 132, 2, [(4097, 9), (0, 0)]), none, none, some (.iconst (-1), 4294967295, 0, []), some (.iastore, 0, 0, []), some (.aload_n 0, 0, 0, []), some (.getfield 9, 4, 0, [(3224, 0)]), none, none, some (.iload_n 2, 2, 0, []), some (.iconst 2, 2, 0, []), some (.invokestatic 85, 132, 2, [(4097, 9), (0, 0)]), none, none, some (.iconst 0, 0, 0, []), some (.iastore, 0, 0, []), some (.aload_n 0, 0, 0, []), some (.getfield 9, 4, 0, [(3224, 0)]), none, none, some (.iconst 3, 3, 0, []), some (.dup2, 0, 0, []), some (.iaload, 0, 0, []), some (.iconst 1, 1, 0, []), some (.iadd, 0, 0, []), some (.iastore, 0, 0, []), some (.iload_n 2, 2, 0, []), some (.ireturn, 0, 0, [])]
noncomputable def E_X5_onePersonMore : ts_E := fun z => if z = 132 then F_X5_personAt else fun _ _ => none
noncomputable def F_X5_onePersonMore : List ts_V → ts_S → Option ts_A := ts_Fn E_X5_onePersonMore tb_X5_onePersonMore 3
set_option maxRecDepth 20000 in
theorem ok_X5_onePersonMore : ts_tbo 1 ts_mi [132] (ts_mi 138).1.cls (ts_mi 138).2.2.2.1 (ts_mi 138).2.1 0 tb_X5_onePersonMore = true := by decide +kernel
theorem con_X5_onePersonMore {X : ts_X} {l : Launch} (hJ : ts_J X l) : ts_Met X l (ts_mi 138) 1 F_X5_onePersonMore := ts_con (ts_mi 138) 1 (E := E_X5_onePersonMore) (mi := ts_mi) (cs := [132]) (tb := tb_X5_onePersonMore) (plainFor_of_name (by decide +kernel)) hJ.1 (List.forall_mem_cons.mpr ⟨⟨mw_132, 0, by decide, con_X5_personAt hJ⟩, fun _ h => absurd h List.not_mem_nil⟩) ok_X5_onePersonMore
def tb_X5_person : List (Option ts_I) := [some (.iload_n 1, 1, 0, []), some (.invokestatic 95, 123, 1, [(4090, 9), (0, 0)]), none, none, some (.ifCond .ne 10, 14, 0, []), none, none, some (.aload_n 0, 0, 0, []), some (.ldc 60, 4293967295, 0, [(4062, 0)]), none, some (.invokevirtual 66, 116, 2, [(4063, 4), (0, 0)]), none, none, some (.ireturn, 0, 0, []), some (.aload_n 0, 0, 0, []), some (.getfield 9, 4, 0, [(3224, 0)]), none, none, some (.iconst 3, 3, 0, []), some (.iaload, 0, 0, []), some (.bipush 6, 6, 0, []), none, some (.if_icmp .ne 12, 34, 0, []), none, none, some (.aload_n 0, 0, 0, []), some (.ldc 91, 4293967294, 0, [(4078, 0)]), none, some (.invokevirtual 66, 116, 2, [(4063, 4), (0, 0)]), none, none, some (.goto 8, 39, 0, []), none, none, some (.aload_n 0, 0, 0, []), some (.iload_n 1, 1, 0, []), some (.invokevirtual 98, 138, 2, [(4093, 4), (0, 0)]), none, none, some (.ireturn, 0, 0, [])]
noncomputable def E_X5_person : ts_E := fun z => if z = 123 then F_X5_isSet else if z = 116 then F_X5_finding else if z = 138 then F_X5_onePersonMore else fun _ _ => none
noncomputable def F_X5_person : List ts_V → ts_S → Option ts_A := ts_Fn E_X5_person tb_X5_person 2
set_option maxRecDepth 20000 in
theorem ok_X5_person : ts_tbo 2 ts_mi [123, 116, 138] (ts_mi 139).1.cls (ts_mi 139).2.2.2.1 (ts_mi 139).2.1 0 tb_X5_person = true := by decide +kernel
theorem con_X5_person {X : ts_X} {l : Launch} (hJ : ts_J X l) : ts_Met X l (ts_mi 139) 2 F_X5_person := ts_con (ts_mi 139) 2 (E := E_X5_person) (mi := ts_mi) (cs := [123, 116, 138]) (tb := tb_X5_person) (plainFor_of_name (by decide +kernel)) hJ.1 (List.forall_mem_cons.mpr ⟨⟨mw_123, 1, by decide, con_X5_isSet hJ⟩, List.forall_mem_cons.mpr ⟨⟨mw_116, 0, by decide, con_X5_finding hJ⟩, List.forall_mem_cons.mpr ⟨⟨mw_138, 1, by decide, con_X5_onePersonMore hJ⟩, fun _ h => absurd h List.not_mem_nil⟩⟩⟩) ok_X5_person
def tb_X5_holds : List (Option ts_I) := [some (.aload_n 0, 0, 0, []), some (.iload_n 1, 1, 0, []), some (.iconst 0, 0, 0, []), some (.invokevirtual 101, 130, 3, [(4112, 4), (0, 0)]), none, none, some (.tableswitch 46 1 6 #[38, 42, 38, 44, 46, 40], 52, 38, [(1, 44), (2, 48), (3, 44), (4, 50), (5, 52), (6, 46)]), none, none, none, none, none, none, none, none, none, none, none, none, none, none, none, none, none, none, none, none, none, none, none, none, none, none, none, none, none, none, none, none, none, none, none, none, none, some (.iconst 4, 4, 0, []), some (.ireturn, 0, 0, []), some (.iconst 0, 0, 0, []), some (.ireturn, 0, 0, []), some (.iconst 5, 5, 0, []), some (.ireturn, 0, 0, []), some (.iconst 2, 2, 0, []), some (.ireturn, 0, 0, []), some (.iconst 3, 3, 0, []), some (.ireturn, 0, 0, [])]
noncomputable def E_X5_holds : ts_E := fun z => if z = 130 then F_X5_sillIs else fun _ _ => none
noncomputable def F_X5_holds : List ts_V → ts_S → Option ts_A := ts_Fn E_X5_holds tb_X5_holds 2
set_option maxRecDepth 20000 in
theorem ok_X5_holds : ts_tbo 2 ts_mi [130] (ts_mi 140).1.cls (ts_mi 140).2.2.2.1 (ts_mi 140).2.1 0 tb_X5_holds = true := by decide +kernel
theorem con_X5_holds {X : ts_X} {l : Launch} (hJ : ts_J X l) : ts_Met X l (ts_mi 140) 2 F_X5_holds := ts_con (ts_mi 140) 2 (E := E_X5_holds) (mi := ts_mi) (cs := [130]) (tb := tb_X5_holds) (plainFor_of_name (by decide +kernel)) hJ.1 (List.forall_mem_cons.mpr ⟨⟨mw_130, 1, by decide, con_X5_sillIs hJ⟩, fun _ h => absurd h List.not_mem_nil⟩) ok_X5_holds
def tb_X5_keptSet : List (Option ts_I) := [some (.iconst 0, 0, 0, []), some (.istore_n 2, 2, 0, []), some (.iconst 0, 0, 0, []), some (.istore_n 3, 3, 0, []), some (.iload_n 3, 3, 0, []), some (.aload_n 0, 0, 0, []), some (.iload_n 1, 1, 0, []), some (.iconst 3, 3, 0, []), some (.invokevirtual 101, 130, 3, [(4112, 4), (0, 0)]), none, none, some (.if_icmp .ge 22, 33, 0, []), none, none, some (.iload_n 2, 2, 0, []), some (.iconst 1, 1, 0, []), some (.aload_n 0, 0, 0, []), some (.iload_n 1, 1, 0, []), some (.iconst 4, 4, 0, []), some (.iload_n 3, 3, 0, []), some (.iadd, 0, 0, []), some (.invokevirtual 101, 130, 3, [(4112, 4), (0, 0)]), none, none, some (.ishl, 0, 0, []), some (.ior, 0, 0, []), some (.istore_n 2, 2, 0, []), some (.iinc 3 1, 3, 1, []), none, none, some (.goto (-26), 4, 0, []), none, none, some (.iload_n 2, 2, 0, []), some (.ireturn, 0, 0, [])]
noncomputable def E_X5_keptSet : ts_E := fun z => if z = 130 then F_X5_sillIs else fun _ _ => none
noncomputable def F_X5_keptSet : List ts_V → ts_S → Option ts_A := ts_Fn E_X5_keptSet tb_X5_keptSet 4
set_option maxRecDepth 20000 in
theorem ok_X5_keptSet : ts_tbo 2 ts_mi [130] (ts_mi 141).1.cls (ts_mi 141).2.2.2.1 (ts_mi 141).2.1 0 tb_X5_keptSet = true := by decide +kernel
theorem con_X5_keptSet {X : ts_X} {l : Launch} (hJ : ts_J X l) : ts_Met X l (ts_mi 141) 2 F_X5_keptSet := ts_con (ts_mi 141) 2 (E := E_X5_keptSet) (mi := ts_mi) (cs := [130]) (tb := tb_X5_keptSet) (plainFor_of_name (by decide +kernel)) hJ.1 (List.forall_mem_cons.mpr ⟨⟨mw_130, 1, by decide, con_X5_sillIs hJ⟩, fun _ h => absurd h List.not_mem_nil⟩) ok_X5_keptSet
def tb_X5_givesFrom : List (Option ts_I) := [some (.aload_n 0, 0, 0, []), some (.iload_n 1, 1, 0, []), some (.iconst 3, 3, 0, []), some (.invokevirtual 101, 130, 3, [(4112, 4), (0, 0)]), none, none, some (.iconst 1, 1, 0, []), some (.isub, 0, 0, []), some (.istore_n 2, 2, 0, []), some (.iload_n 2, 2, 0, []), some (.ifCond .ge 7, 17, 0, []), none, none, some (.iconst (-1), 4294967295, 0, []), some (.goto 4, 18, 0, []), none, none, some (.iconst 0, 0, 0, []), some (.istore_n 3, 3, 0, []), some (.aload_n 0, 0, 0, []), some (.iload_n 1, 1, 0, []), some (.iconst 0, 0, 0, []), some (.invokevirtual 101, 130, 3, [(4112, 4), (0, 0)]), none, none, some (.tableswitch 52 2 5 #[31, 33, 33, 50], 77, 31, [(2, 56), (3, 58), (4, 58), (5, 75)]), none, none, none, none, none, none, none, none, none, none, none, none, none, none, none, none, none, none, none, none, none, none, none, none, none, none, none, none, none, none, some (.iload_n 2, 2, 0, []), some (.ireturn, 0, 0, []), some (.aload_n 0, 0, 0, []), some (.iload_n 1, 1, 0, []), some (.iconst 1, 1, 0, []), some (.invokevirtual 101, 130, 3, [(4112, 4), (0, 0)]), none, none, some (.iconst 3, 3, 0, []), some (.irem, 0, 0, []), some (.ifCond .ne 7, 73, 0, []), none, none, some (.iload_n 3, 3, 0, []), some (.goto 4, 74, 0, []), none, none, some (.iload_n 2, 2, 0, []), some (.ireturn, 0, 0, []), some (.iconst (-1), 4294967295, 0, []), some (.ireturn, 0, 0, []), some (.iload_n 3, 3, 0, []), some (.ireturn, 0, 0, [])]
noncomputable def E_X5_givesFrom : ts_E := fun z => if z = 130 then F_X5_sillIs else fun _ _ => none
noncomputable def F_X5_givesFrom : List ts_V → ts_S → Option ts_A := ts_Fn E_X5_givesFrom tb_X5_givesFrom 4
set_option maxRecDepth 20000 in
theorem ok_X5_givesFrom : ts_tbo 2 ts_mi [130] (ts_mi 142).1.cls (ts_mi 142).2.2.2.1 (ts_mi 142).2.1 0 tb_X5_givesFrom = true := by decide +kernel
theorem con_X5_givesFrom {X : ts_X} {l : Launch} (hJ : ts_J X l) : ts_Met X l (ts_mi 142) 2 F_X5_givesFrom := ts_con (ts_mi 142) 2 (E := E_X5_givesFrom) (mi := ts_mi) (cs := [130]) (tb := tb_X5_givesFrom) (plainFor_of_name (by decide +kernel)) hJ.1 (List.forall_mem_cons.mpr ⟨⟨mw_130, 1, by decide, con_X5_sillIs hJ⟩, fun _ h => absurd h List.not_mem_nil⟩) ok_X5_givesFrom
def tb_X5_gives : List (Option ts_I) := [some (.aload_n 0, 0, 0, []), some (.iload_n 1, 1, 0, []), some (.invokevirtual 104, 142, 2, [(4128, 4), (0, 0)]), none, none, some (.istore_n 2, 2, 0, []), some (.iload_n 2, 2, 0, []), some (.ifCond .ge 7, 14, 0, []), none, none, some (.iconst (-1), 4294967295, 0, []), some (.goto 11, 22, 0, []), none, none, some (.aload_n 0, 0, 0, []), some (.iload_n 1, 1, 0, []), some (.iconst 4, 4, 0, []), some (.iload_n 2, 2, 0, []), some (.iadd, 0, 0, []), some (.invokevirtual 101, 130, 3, [(4112, 4), (0, 0)]), none, none, some (.ireturn, 0, 0, [])]
noncomputable def E_X5_gives : ts_E := fun z => if z = 142 then F_X5_givesFrom else if z = 130 then F_X5_sillIs else fun _ _ => none
noncomputable def F_X5_gives : List ts_V → ts_S → Option ts_A := ts_Fn E_X5_gives tb_X5_gives 3
set_option maxRecDepth 20000 in
theorem ok_X5_gives : ts_tbo 3 ts_mi [142, 130] (ts_mi 143).1.cls (ts_mi 143).2.2.2.1 (ts_mi 143).2.1 0 tb_X5_gives = true := by decide +kernel
theorem con_X5_gives {X : ts_X} {l : Launch} (hJ : ts_J X l) : ts_Met X l (ts_mi 143) 3 F_X5_gives := ts_con (ts_mi 143) 3 (E := E_X5_gives) (mi := ts_mi) (cs := [142, 130]) (tb := tb_X5_gives) (plainFor_of_name (by decide +kernel)) hJ.1 (List.forall_mem_cons.mpr ⟨⟨mw_142, 2, by decide, con_X5_givesFrom hJ⟩, List.forall_mem_cons.mpr ⟨⟨mw_130, 1, by decide, con_X5_sillIs hJ⟩, fun _ h => absurd h List.not_mem_nil⟩⟩) ok_X5_gives
def tb_X5_greatest : List (Option ts_I) := [some (.bipush 11, 11, 0, []), none, some (.istore_n 1, 1, 0, []), some (.iload_n 1, 1, 0, []), some (.ifCond .lt 17, 21, 0, []), none, none, some (.iload_n 0, 0, 0, []), some (.iload_n 1, 1, 0, []), some (.ishr, 0, 0, []), some (.iconst 1, 1, 0, []), some (.iand, 0, 0, []), some (.ifCond .ne 9, 21, 0, []), none, none, some (.iinc 1 (-1), 1, 4294967295, []), none, none, some (.goto (-15), 3, 0, []), none, none, some (.iload_n 1, 1, 0, []), some (.ireturn, 0, 0, [])]
noncomputable def E_X5_greatest : ts_E := fun _ _ _ => none
noncomputable def F_X5_greatest : List ts_V → ts_S → Option ts_A := ts_Fn E_X5_greatest tb_X5_greatest 2
set_option maxRecDepth 20000 in
theorem ok_X5_greatest : ts_tbo 0 ts_mi [] (ts_mi 144).1.cls (ts_mi 144).2.2.2.1 (ts_mi 144).2.1 0 tb_X5_greatest = true := by decide +kernel
theorem con_X5_greatest {X : ts_X} {l : Launch} (hJ : ts_J X l) : ts_Met X l (ts_mi 144) 0 F_X5_greatest := ts_con (ts_mi 144) 0 (E := E_X5_greatest) (mi := ts_mi) (cs := []) (tb := tb_X5_greatest) (plainFor_of_name (by decide +kernel)) hJ.1 (fun _ h => absurd h List.not_mem_nil) ok_X5_greatest
def tb_X5_least : List (Option ts_I) := [some (.iconst 0, 0, 0, []), some (.istore_n 1, 1, 0, []), some (.iload_n 1, 1, 0, []), some (.bipush 12, 12, 0, []), none, some (.if_icmp .ge 17, 22, 0, []), none, none, some (.iload_n 0, 0, 0, []), some (.iload_n 1, 1, 0, []), some (.ishr, 0, 0, []), some (.iconst 1, 1, 0, []), some (.iand, 0, 0, []), some (.ifCond .ne 9, 22, 0, []), none, none, some (.iinc 1 1, 1, 1, []), none, none, some (.goto (-17), 2, 0, []), none, none, some (.iload_n 1, 1, 0, []), some (.bipush 12, 12, 0, []), none, some (.if_icmp .ne 7, 32, 0, []), none, none, some (.iconst (-1), 4294967295, 0, []), some (.goto 4, 33, 0, []), none, none, some (.iload_n 1, 1, 0, []), some (.ireturn, 0, 0, [])]
noncomputable def E_X5_least : ts_E := fun _ _ _ => none
noncomputable def F_X5_least : List ts_V → ts_S → Option ts_A := ts_Fn E_X5_least tb_X5_least 2
set_option maxRecDepth 20000 in
theorem ok_X5_least : ts_tbo 0 ts_mi [] (ts_mi 145).1.cls (ts_mi 145).2.2.2.1 (ts_mi 145).2.1 0 tb_X5_least = true := by decide +kernel
theorem con_X5_least {X : ts_X} {l : Launch} (hJ : ts_J X l) : ts_Met X l (ts_mi 145) 0 F_X5_least := ts_con (ts_mi 145) 0 (E := E_X5_least) (mi := ts_mi) (cs := []) (tb := tb_X5_least) (plainFor_of_name (by decide +kernel)) hJ.1 (fun _ h => absurd h List.not_mem_nil) ok_X5_least
def tb_X5_takesOf : List (Option ts_I) := [some (.iload_n 2, 2, 0, []), some (.sipush 1365, 1365, 0, []), none, none, some (.iand, 0, 0, []), some (.invokestatic 107, 144, 1, [(4176, 9), (0, 0)]), none, none, some (.istore_n 3, 3, 0, []), some (.iload_n 3, 3, 0, []), some (.ifCond .ge 10, 20, 0, []), none, none, some (.iload_n 2, 2, 0, []), some (.invokestatic 107, 144, 1, [(4176, 9), (0, 0)]), none, none, some (.goto 4, 21, 0, []), none, none, some (.iload_n 3, 3, 0, []), some (.istore 4, 4, 0, []), none, some (.aload_n 0, 0, 0, []), some (.iload_n 1, 1, 0, []), some (.iconst 0, 0, 0, []), some (.invokevirtual 101, 130, 3, [(4112, 4), (0, 0)]), none, none, some (.tableswitch 75 1 6 #[39, 44, 46, 49, 75, 39], 104, 39, [(1, 68), (2, 73), (3, 75), (4, 78), (5, 104), (6, 68)]), none, none, none, none, none, none, none, none, none, none, none, none, none, none, none, none, none, none, none, none, none, none, none, none, none, none, none, none, none, none, none, none, none, none, none, none, none, none, some (.iload_n 2, 2, 0, []), some (.invokestatic 110, 145, 1, [(4179, 9), (0, 0)]), none, none, some (.ireturn, 0, 0, []), some (.iload_n 3, 3, 0, []), some (.ireturn, 0, 0, []), some (.iload 4, 4, 0, []), none, some (.ireturn, 0, 0, []), some (.iload 4, 4, 0, []), none, some (.ifCond .lt 21, 101, 0, []), none, none, some (.aload_n 0, 0, 0, []), some (.iload_n 1, 1, 0, []), some (.invokevirtual 113, 141, 2, [(4120, 4), (0, 0)]), none, none, some (.iload 4, 4, 0, []), none, some (.ishr, 0, 0, []), some (.iconst 1, 1, 0, []), some (.iand, 0, 0, []), some (.iconst 1, 1, 0, []), some (.if_icmp .ne 7, 101, 0, []), none, none, some (.iconst (-1), 4294967295, 0, []), some (.goto 5, 103, 0, []), none, none, some (.iload 4, 4, 0, []), none, some (.ireturn, 0, 0, []), some (.iload_n 2, 2, 0, []), some (.invokestatic 107, 144, 1, [(4176, 9), (0, 0)]), none, none, some (.ireturn, 0, 0, [])]
noncomputable def E_X5_takesOf : ts_E := fun z => if z = 144 then F_X5_greatest else if z = 130 then F_X5_sillIs else if z = 145 then F_X5_least else if z = 141 then F_X5_keptSet else fun _ _ => none
noncomputable def F_X5_takesOf : List ts_V → ts_S → Option ts_A := ts_Fn E_X5_takesOf tb_X5_takesOf 5
set_option maxRecDepth 20000 in
theorem ok_X5_takesOf : ts_tbo 3 ts_mi [144, 130, 145, 141] (ts_mi 146).1.cls (ts_mi 146).2.2.2.1 (ts_mi 146).2.1 0 tb_X5_takesOf = true := by decide +kernel
theorem con_X5_takesOf {X : ts_X} {l : Launch} (hJ : ts_J X l) : ts_Met X l (ts_mi 146) 3 F_X5_takesOf := ts_con (ts_mi 146) 3 (E := E_X5_takesOf) (mi := ts_mi) (cs := [144, 130, 145, 141]) (tb := tb_X5_takesOf) (plainFor_of_name (by decide +kernel)) hJ.1 (List.forall_mem_cons.mpr ⟨⟨mw_144, 0, by decide, con_X5_greatest hJ⟩, List.forall_mem_cons.mpr ⟨⟨mw_130, 1, by decide, con_X5_sillIs hJ⟩, List.forall_mem_cons.mpr ⟨⟨mw_145, 0, by decide, con_X5_least hJ⟩, List.forall_mem_cons.mpr ⟨⟨mw_141, 2, by decide, con_X5_keptSet hJ⟩, fun _ h => absurd h List.not_mem_nil⟩⟩⟩⟩) ok_X5_takesOf
def tb_X5_told : List (Option ts_I) := [some (.iload_n 2, 2, 0, []), some (.tableswitch 79 0 5 #[39, 46, 53, 60, 67, 73], 80, 39, [(0, 40), (1, 47), (2, 54), (3, 61), (4, 68), (5, 74)]), none, none, none, none, none, none, none, none, none, none, none, none, none, none, none, none, none, none, none, none, none, none, none, none, none, none, none, none, none, none, none, none, none, none, none, none, none, none, some (.aload_n 0, 0, 0, []), some (.iload_n 1, 1, 0, []), some (.iconst 0, 0, 0, []), some (.invokevirtual 101, 130, 3, [(4112, 4), (0, 0)]), none, none, some (.ireturn, 0, 0, []), some (.aload_n 0, 0, 0, []), some (.iload_n 1, 1, 0, []), some (.iconst 3, 3, 0, []), some (.invokevirtual 101, 130, 3, [(4112, 4), (0, 0)]), none, none, some (.ireturn, 0, 0, []), some (.aload_n 0, 0, 0, []), some (.iload_n 1, 1, 0, []), some (.iconst 1, 1, 0, []), some (.invokevirtual 101, 130, 3, [(4112, 4), (0, 0)]), none, none, some (.ireturn, 0, 0, []), some (.aload_n 0, 0, 0, []), some (.iload_n 1, 1, 0, []), some (.iconst 2, 2, 0, []), some (.invokevirtual 101, 130, 3, [(4112, 4), (0, 0)]), none, none, some (.ireturn, 0, 0, []), some (.aload_n 0, 0, 0, []), some (.iload_n 1, 1, 0, []), some (.invokevirtual 116, 140, 2, [(4116, 4), (0, 0)]), none, none, some (.ireturn, 0, 0, []), some (.aload_n 0, 0, 0, []), some (.iload_n 1, 1, 0, []), some (.invokevirtual 113, 141, 2, [(4120, 4), (0, 0)]), none, none, some (.ireturn, 0, 0, []), some (.aload_n 0, 0, 0, []), some (.iload_n 1, 1, 0, []), some (.invokevirtual 119, 143, 2, [(4124, 4), (0, 0)]), none, none, some (.ireturn, 0, 0, [])]
noncomputable def E_X5_told : ts_E := fun z => if z = 130 then F_X5_sillIs else if z = 140 then F_X5_holds else if z = 141 then F_X5_keptSet else if z = 143 then F_X5_gives else fun _ _ => none
noncomputable def F_X5_told : List ts_V → ts_S → Option ts_A := ts_Fn E_X5_told tb_X5_told 3
set_option maxRecDepth 20000 in
theorem ok_X5_told : ts_tbo 4 ts_mi [130, 140, 141, 143] (ts_mi 147).1.cls (ts_mi 147).2.2.2.1 (ts_mi 147).2.1 0 tb_X5_told = true := by decide +kernel
theorem con_X5_told {X : ts_X} {l : Launch} (hJ : ts_J X l) : ts_Met X l (ts_mi 147) 4 F_X5_told := ts_con (ts_mi 147) 4 (E := E_X5_told) (mi := ts_mi) (cs := [130, 140, 141, 143]) (tb := tb_X5_told) (plainFor_of_name (by decide +kernel)) hJ.1 (List.forall_mem_cons.mpr ⟨⟨mw_130, 1, by decide, con_X5_sillIs hJ⟩, List.forall_mem_cons.mpr ⟨⟨mw_140, 2, by decide, con_X5_holds hJ⟩, List.forall_mem_cons.mpr ⟨⟨mw_141, 2, by decide, con_X5_keptSet hJ⟩, List.forall_mem_cons.mpr ⟨⟨mw_143, 3, by decide, con_X5_gives hJ⟩, fun _ h => absurd h List.not_mem_nil⟩⟩⟩⟩) ok_X5_told
def tb_X5_of : List (Option ts_I) := [some (.aload_n 0, 0, 0, []), some (.iload_n 1, 1, 0, []), some (.invokevirtual 122, 131, 2, [(4104, 4), (0, 0)]), none, none, some (.ifCond .eq 22, 27, 0, []), none, none, some (.iload_n 2, 2, 0, []), some (.iconst 0, 0, 0, []), some (.bipush 6, 6, 0, []), none, some (.invokestatic 70, 117, 3, [(4055, 9), (0, 0)]), none, none, some (.ifCond .eq 12, 27, 0, []), none, none, some (.aload_n 0, 0, 0, []), some (.iload_n 1, 1, 0, []), some (.iload_n 2, 2, 0, []), some (.invokevirtual 125, 147, 3, [(4108, 4), (0, 0)]), none, none, some (.goto 9, 33, 0, []), none, none, some (.aload_n 0, 0, 0, []), some (.ldc 60, 4293967295, 0, [(4062, 0)]), none, some (.invokevirtual 66, 116, 2, [(4063, 4), (0, 0)]), none, none, some (.ireturn, 0, 0, [])]
noncomputable def E_X5_of : ts_E := fun z => if z = 131 then F_X5_isSill else if z = 117 then F_X5_within else if z = 147 then F_X5_told else if z = 116 then F_X5_finding else fun _ _ => none
noncomputable def F_X5_of : List ts_V → ts_S → Option ts_A := ts_Fn E_X5_of tb_X5_of 3
set_option maxRecDepth 20000 in
theorem ok_X5_of : ts_tbo 5 ts_mi [131, 117, 147, 116] (ts_mi 148).1.cls (ts_mi 148).2.2.2.1 (ts_mi 148).2.1 0 tb_X5_of = true := by decide +kernel
theorem con_X5_of {X : ts_X} {l : Launch} (hJ : ts_J X l) : ts_Met X l (ts_mi 148) 5 F_X5_of := ts_con (ts_mi 148) 5 (E := E_X5_of) (mi := ts_mi) (cs := [131, 117, 147, 116]) (tb := tb_X5_of) (plainFor_of_name (by decide +kernel)) hJ.1 (List.forall_mem_cons.mpr ⟨⟨mw_131, 1, by decide, con_X5_isSill hJ⟩, List.forall_mem_cons.mpr ⟨⟨mw_117, 0, by decide, con_X5_within hJ⟩, List.forall_mem_cons.mpr ⟨⟨mw_147, 4, by decide, con_X5_told hJ⟩, List.forall_mem_cons.mpr ⟨⟨mw_116, 0, by decide, con_X5_finding hJ⟩, fun _ h => absurd h List.not_mem_nil⟩⟩⟩⟩) ok_X5_of
def tb_X5_word : List (Option ts_I) := [some (.aload_n 0, 0, 0, []), some (.iload_n 1, 1, 0, []), some (.invokevirtual 122, 131, 2, [(4104, 4), (0, 0)]), none, none, some (.ifCond .eq 7, 12, 0, []), none, none, some (.iload_n 2, 2, 0, []), some (.ifCond .ge 10, 19, 0, []), none, none, some (.aload_n 0, 0, 0, []), some (.ldc 60, 4293967295, 0, [(4062, 0)]), none, some (.invokevirtual 66, 116, 2, [(4063, 4), (0, 0)]), none, none, some (.ireturn, 0, 0, []), some (.iload_n 2, 2, 0, []), some (.aload_n 0, 0, 0, []), some (.iload_n 1, 1, 0, []), some (.iconst 3, 3, 0, []), some (.invokevirtual 101, 130, 3, [(4112, 4), (0, 0)]), none, none, some (.if_icmp .ge 14, 40, 0, []), none, none, some (.aload_n 0, 0, 0, []), some (.iload_n 1, 1, 0, []), some (.iconst 4, 4, 0, []), some (.iload_n 2, 2, 0, []), some (.iadd, 0, 0, []), some (.invokevirtual 101, 130, 3, [(4112, 4), (0, 0)]), none, none, some (.goto 9, 46, 0, []), none, none, some (.aload_n 0, 0, 0, []), some (.ldc 65, 4293967292, 0, [(4136, 0)]), none, some (.invokevirtual 66, 116, 2, [(4063, 4), (0, 0)]), none, none, some (.ireturn, 0, 0, [])]
noncomputable def E_X5_word : ts_E := fun z => if z = 131 then F_X5_isSill else if z = 116 then F_X5_finding else if z = 130 then F_X5_sillIs else fun _ _ => none
noncomputable def F_X5_word : List ts_V → ts_S → Option ts_A := ts_Fn E_X5_word tb_X5_word 3
set_option maxRecDepth 20000 in
theorem ok_X5_word : ts_tbo 2 ts_mi [131, 116, 130] (ts_mi 149).1.cls (ts_mi 149).2.2.2.1 (ts_mi 149).2.1 0 tb_X5_word = true := by decide +kernel
theorem con_X5_word {X : ts_X} {l : Launch} (hJ : ts_J X l) : ts_Met X l (ts_mi 149) 2 F_X5_word := ts_con (ts_mi 149) 2 (E := E_X5_word) (mi := ts_mi) (cs := [131, 116, 130]) (tb := tb_X5_word) (plainFor_of_name (by decide +kernel)) hJ.1 (List.forall_mem_cons.mpr ⟨⟨mw_131, 1, by decide, con_X5_isSill hJ⟩, List.forall_mem_cons.mpr ⟨⟨mw_116, 0, by decide, con_X5_finding hJ⟩, List.forall_mem_cons.mpr ⟨⟨mw_130, 1, by decide, con_X5_sillIs hJ⟩, fun _ h => absurd h List.not_mem_nil⟩⟩⟩) ok_X5_word
def tb_X5_change : List (Option ts_I) := [some (.iload_n 2, 2, 0, []), some (.ifCond .ne 10, 11, 0, []), none, none, some (.iload_n 3, 3, 0, []), some (.invokestatic 88, 135, 1, [(4075, 9), (0, 0)]), none, none, some (.goto 38, 46, 0, []), none, none, some (.iload_n 2, 2, 0, []), some (.iconst 2, 2, 0, []), some (.if_icmp .ne 14, 27, 0, []), none, none, some (.iload_n 3, 3, 0, []), some (.iconst 0, 0, 0, []), some (.sipush 9999, 9999, 0, []), none, none, some (.invokestatic 70, 117, 3, [(4055, 9), (0, 0)]), none, none, some (.goto 22, 46, 0, []), none, none, some (.iload_n 2, 2, 0, []), some (.iconst 3, 3, 0, []), some (.if_icmp .ne 16, 45, 0, []), none, none, some (.iload_n 3, 3, 0, []), some (.iconst 0, 0, 0, []), some (.iconst 1, 1, 0, []), some (.invokestatic 70, 117, 3, [(4055, 9), (0, 0)]), none, none, some (.ifCond .eq 7, 45, 0, []), none, none, some (.iconst 1, 1, 0, []), some (.goto 4, 46, 0, []), none, none, some (.iconst 0, 0, 0, []), some (.istore 4, 4, 0, []), none, some (.aload_n 0, 0, 0, []), some (.iload_n 1, 1, 0, []), some (.invokevirtual 122, 131, 2, [(4104, 4), (0, 0)]), none, none, some (.ifCond .eq 38, 91, 0, []), none, none, some (.iload 4, 4, 0, []), none, some (.ifCond .eq 33, 91, 0, []), none, none, some (.aload_n 0, 0, 0, []), some (.iload_n 1, 1, 0, []), some (.iload_n 2, 2, 0, []), some (.ifCond .ne 7, 71, 0, []), none, none, some (.iconst 0, 0, 0, []), some (.goto 13, 81, 0, []), none, none, some (.iload_n 2, 2, 0, []), some (.iconst 2, 2, 0, []), some (.if_icmp .ne 7, 80, 0, []), none, none, some (.iconst 1, 1, 0, []), some (.goto 4, 81, 0, []), none, none, some (.iconst 2, 2, 0, []), some (.invokestatic 82, 129, 2, [(4083, 9), (0, 0)]), none, none, some (.iload_n 3, 3, 0, []), some (.invokevirtual 78, 118, 3, [(4058, 4), (0, 0)]), none, none, some (.goto 9, 97, 0, []), none, none, some (.aload_n 0, 0, 0, []), some (.ldc 60, 4293967295, 0, [(4062, 0)]), none, some (.invokevirtual 66, 116, 2, [(4063, 4), (0, 0)]), none, none, some (.ireturn, 0, 0, [])]
noncomputable def E_X5_change : ts_E := fun z => if z = 135 then F_X5_isKind else if z = 117 then F_X5_within else if z = 131 then F_X5_isSill else if z = 129 then F_X5_sillAt else if z = 118 then F_X5_become else if z = 116 then F_X5_finding else fun _ _ => none
noncomputable def F_X5_change : List ts_V → ts_S → Option ts_A := ts_Fn E_X5_change tb_X5_change 5
set_option maxRecDepth 20000 in
theorem ok_X5_change : ts_tbo 2 ts_mi [135, 117, 131, 129, 118, 116] (ts_mi 150).1.cls (ts_mi 150).2.2.2.1 (ts_mi 150).2.1 0 tb_X5_change = true := by decide +kernel
theorem con_X5_change {X : ts_X} {l : Launch} (hJ : ts_J X l) : ts_Met X l (ts_mi 150) 2 F_X5_change := ts_con (ts_mi 150) 2 (E := E_X5_change) (mi := ts_mi) (cs := [135, 117, 131, 129, 118, 116]) (tb := tb_X5_change) (plainFor_of_name (by decide +kernel)) hJ.1 (List.forall_mem_cons.mpr ⟨⟨mw_135, 1, by decide, con_X5_isKind hJ⟩, List.forall_mem_cons.mpr ⟨⟨mw_117, 0, by decide, con_X5_within hJ⟩, List.forall_mem_cons.mpr ⟨⟨mw_131, 1, by decide, con_X5_isSill hJ⟩, List.forall_mem_cons.mpr ⟨⟨mw_129, 0, by decide, con_X5_sillAt hJ⟩, List.forall_mem_cons.mpr ⟨⟨mw_118, 0, by decide, con_X5_become hJ⟩, List.forall_mem_cons.mpr ⟨⟨mw_116, 0, by decide, con_X5_finding hJ⟩, fun _ h => absurd h List.not_mem_nil⟩⟩⟩⟩⟩⟩) ok_X5_change
def tb_X5_lays : List (Option ts_I) := [some (.aload_n 0, 0, 0, []), some (.getfield 9, 4, 0, [(3224, 0)]), none, none, some (.iload_n 1, 1, 0, []), some (.iconst 4, 4, 0, []), some (.aload_n 0, 0, 0, []), some (.iload_n 1, 1, 0, []), some (.iconst 3, 3, 0, []), some (.invokevirtual 101, 130, 3, [(4112, 4), (0, 0)]), none, none, some (.iadd, 0, 0, []), some (.invokestatic 82, 129, 2, [(4083, 9), (0, 0)]), none, none, some (.iload_n 2, 2, 0, []), some (.iastore, 0, 0, []), some (.aload_n 0, 0, 0, []), some (.getfield 9, 4, 0, [(3224, 0)]), none, none, some (.iload_n 1, 1, 0, []), some (.iconst 3, 3, 0, []), some (.invokestatic 82, 129, 2, [(4083, 9), (0, 0)]), none, none, some (.dup2, 0, 0, []), some (.iaload, 0, 0, []), some (.iconst 1, 1, 0, []), some (.iadd, 0, 0, []), some (.iastore, 0, 0, []), some (.aload_n 0, 0, 0, []), some (.iload_n 1, 1, 0, []), some (.iconst 3, 3, 0, []), some (.invokevirtual 101, 130, 3, [(4112, 4), (0, 0)]), none, none, some (.ireturn, 0, 0, [])]
noncomputable def E_X5_lays : ts_E := fun z => if z = 130 then F_X5_sillIs else if z = 129 then F_X5_sillAt else fun _ _ => none
noncomputable def F_X5_lays : List ts_V → ts_S → Option ts_A := ts_Fn E_X5_lays tb_X5_lays 3
set_option maxRecDepth 20000 in
theorem ok_X5_lays : ts_tbo 2 ts_mi [130, 129] (ts_mi 151).1.cls (ts_mi 151).2.2.2.1 (ts_mi 151).2.1 0 tb_X5_lays = true := by decide +kernel
theorem con_X5_lays {X : ts_X} {l : Launch} (hJ : ts_J X l) : ts_Met X l (ts_mi 151) 2 F_X5_lays := ts_con (ts_mi 151) 2 (E := E_X5_lays) (mi := ts_mi) (cs := [130, 129]) (tb := tb_X5_lays) (plainFor_of_name (by decide +kernel)) hJ.1 (List.forall_mem_cons.mpr ⟨⟨mw_130, 1, by decide, con_X5_sillIs hJ⟩, List.forall_mem_cons.mpr ⟨⟨mw_129, 0, by decide, con_X5_sillAt hJ⟩, fun _ h => absurd h List.not_mem_nil⟩⟩) ok_X5_lays
def tb_X5_lay : List (Option ts_I) := [some (.aload_n 0, 0, 0, []), some (.iload_n 1, 1, 0, []), some (.invokevirtual 122, 131, 2, [(4104, 4), (0, 0)]), none, none, some (.ifCond .eq 10, 15, 0, []), none, none, some (.iload_n 2, 2, 0, []), some (.invokestatic 128, 124, 1, [(4145, 9), (0, 0)]), none, none, some (.ifCond .ne 10, 22, 0, []), none, none, some (.aload_n 0, 0, 0, []), some (.ldc 60, 4293967295, 0, [(4062, 0)]), none, some (.invokevirtual 66, 116, 2, [(4063, 4), (0, 0)]), none, none, some (.ireturn, 0, 0, []), some (.aload_n 0, 0, 0, []), some (.iload_n 1, 1, 0, []), some (.iconst 3, 3, 0, []), some (.invokevirtual 101, 130, 3, [(4112, 4), (0, 0)]), none, none, some (.iconst 5, 5, 0, []), some (.if_icmp .ne 12, 41, 0, []), none, none, some (.aload_n 0, 0, 0, []), some (.ldc 91, 4293967294, 0, [(4078, 0)]), none, some (.invokevirtual 66, 116, 2, [(4063, 4), (0, 0)]), none, none, some (.goto 9, 47, 0, []), none, none, some (.aload_n 0, 0, 0, []), some (.iload_n 1, 1, 0, []), some (.iload_n 2, 2, 0, []), some (.invokevirtual 131, 151, 3, [(4148, 4), (0, 0)]), none, none, some (.ireturn, 0, 0, [])]
noncomputable def E_X5_lay : ts_E := fun z => if z = 131 then F_X5_isSill else if z = 124 then F_X5_isWordNumber else if z = 116 then F_X5_finding else if z = 130 then F_X5_sillIs else if z = 151 then F_X5_lays else fun _ _ => none
noncomputable def F_X5_lay : List ts_V → ts_S → Option ts_A := ts_Fn E_X5_lay tb_X5_lay 3
set_option maxRecDepth 20000 in
theorem ok_X5_lay : ts_tbo 3 ts_mi [131, 124, 116, 130, 151] (ts_mi 152).1.cls (ts_mi 152).2.2.2.1 (ts_mi 152).2.1 0 tb_X5_lay = true := by decide +kernel
theorem con_X5_lay {X : ts_X} {l : Launch} (hJ : ts_J X l) : ts_Met X l (ts_mi 152) 3 F_X5_lay := ts_con (ts_mi 152) 3 (E := E_X5_lay) (mi := ts_mi) (cs := [131, 124, 116, 130, 151]) (tb := tb_X5_lay) (plainFor_of_name (by decide +kernel)) hJ.1 (List.forall_mem_cons.mpr ⟨⟨mw_131, 1, by decide, con_X5_isSill hJ⟩, List.forall_mem_cons.mpr ⟨⟨mw_124, 1, by decide, con_X5_isWordNumber hJ⟩, List.forall_mem_cons.mpr ⟨⟨mw_116, 0, by decide, con_X5_finding hJ⟩, List.forall_mem_cons.mpr ⟨⟨mw_130, 1, by decide, con_X5_sillIs hJ⟩, List.forall_mem_cons.mpr ⟨⟨mw_151, 2, by decide, con_X5_lays hJ⟩, fun _ h => absurd h List.not_mem_nil⟩⟩⟩⟩⟩) ok_X5_lay
def tb_X5_ofPerson : List (Option ts_I) := [some (.aload_n 0, 0, 0, []), some (.iload_n 1, 1, 0, []), some (.invokevirtual 134, 134, 2, [(4156, 4), (0, 0)]), none, none, some (.ifCond .eq 21, 26, 0, []), none, none, some (.iload_n 2, 2, 0, []), some (.iconst 0, 0, 0, []), some (.iconst 2, 2, 0, []), some (.invokestatic 70, 117, 3, [(4055, 9), (0, 0)]), none, none, some (.ifCond .eq 12, 26, 0, []), none, none, some (.aload_n 0, 0, 0, []), some (.iload_n 1, 1, 0, []), some (.iload_n 2, 2, 0, []), some (.invokevirtual 137, 133, 3, [(4160, 4), (0, 0)]), none, none, some (.goto 9, 32, 0, []), none, none, some (.aload_n 0, 0, 0, []), some (.ldc 60, 4293967295, 0, [(4062, 0)]), none, some (.invokevirtual 66, 116, 2, [(4063, 4), (0, 0)]), none, none, some (.ireturn, 0, 0, [])]
noncomputable def E_X5_ofPerson : ts_E := fun z => if z = 134 then F_X5_isPerson else if z = 117 then F_X5_within else if z = 133 then F_X5_personIs else if z = 116 then F_X5_finding else fun _ _ => none
noncomputable def F_X5_ofPerson : List ts_V → ts_S → Option ts_A := ts_Fn E_X5_ofPerson tb_X5_ofPerson 3
set_option maxRecDepth 20000 in
theorem ok_X5_ofPerson : ts_tbo 2 ts_mi [134, 117, 133, 116] (ts_mi 153).1.cls (ts_mi 153).2.2.2.1 (ts_mi 153).2.1 0 tb_X5_ofPerson = true := by decide +kernel
theorem con_X5_ofPerson {X : ts_X} {l : Launch} (hJ : ts_J X l) : ts_Met X l (ts_mi 153) 2 F_X5_ofPerson := ts_con (ts_mi 153) 2 (E := E_X5_ofPerson) (mi := ts_mi) (cs := [134, 117, 133, 116]) (tb := tb_X5_ofPerson) (plainFor_of_name (by decide +kernel)) hJ.1 (List.forall_mem_cons.mpr ⟨⟨mw_134, 1, by decide, con_X5_isPerson hJ⟩, List.forall_mem_cons.mpr ⟨⟨mw_117, 0, by decide, con_X5_within hJ⟩, List.forall_mem_cons.mpr ⟨⟨mw_133, 1, by decide, con_X5_personIs hJ⟩, List.forall_mem_cons.mpr ⟨⟨mw_116, 0, by decide, con_X5_finding hJ⟩, fun _ h => absurd h List.not_mem_nil⟩⟩⟩⟩) ok_X5_ofPerson
def tb_X5_send : List (Option ts_I) := [some (.iload_n 2, 2, 0, []), some (.ifCond .ne 10, 11, 0, []), none, none, some (.iload_n 3, 3, 0, []), some (.invokestatic 95, 123, 1, [(4090, 9), (0, 0)]), none, none, some (.goto 50, 58, 0, []), none, none, some (.iload_n 2, 2, 0, []), some (.iconst 1, 1, 0, []), some (.if_icmp .ne 24, 37, 0, []), none, none, some (.iload_n 3, 3, 0, []), some (.iconst (-1), 4294967295, 0, []), some (.if_icmp .eq 11, 29, 0, []), none, none, some (.aload_n 0, 0, 0, []), some (.iload_n 3, 3, 0, []), some (.invokevirtual 122, 131, 2, [(4104, 4), (0, 0)]), none, none, some (.ifCond .eq 7, 33, 0, []), none, none, some (.iconst 1, 1, 0, []), some (.goto 28, 58, 0, []), none, none, some (.iconst 0, 0, 0, []), some (.goto 24, 58, 0, []), none, none, some (.iload_n 2, 2, 0, []), some (.iconst 2, 2, 0, []), some (.if_icmp .ne 18, 57, 0, []), none, none, some (.iload_n 3, 3, 0, []), some (.iconst 0, 0, 0, []), some (.sipush 9999, 9999, 0, []), none, none, some (.invokestatic 70, 117, 3, [(4055, 9), (0, 0)]), none, none, some (.ifCond .eq 7, 57, 0, []), none, none, some (.iconst 1, 1, 0, []), some (.goto 4, 58, 0, []), none, none, some (.iconst 0, 0, 0, []), some (.istore 4, 4, 0, []), none, some (.aload_n 0, 0, 0, []), some (.iload_n 1, 1, 0, []), some (.invokevirtual 134, 134, 2, [(4156, 4), (0, 0)]), none, none, some (.ifCond .eq 21, 86, 0, []), none, none, some (.iload 4, 4, 0, []), none, some (.ifCond .eq 16, 86, 0, []), none, none, some (.aload_n 0, 0, 0, []), some (.iload_n 1, 1, 0, []), some (.iload_n 2, 2, 0, []), some (.invokestatic 85, 132, 2, [(4097, 9), (0, 0)]), none, none, some (.iload_n 3, 3, 0, []), some (.invokevirtual 78, 118, 3, [(4058, 4), (0, 0)]), none, none, some (.goto 9, 92, 0, []), none, none, some (.aload_n 0, 0, 0, []), some (.ldc 60, 4293967295, 0, [(4062, 0)]), none, some (.invokevirtual 66, 116, 2, [(4063, 4), (0, 0)]), none, none, some (.ireturn, 0, 0, [])]
noncomputable def E_X5_send : ts_E := fun z => if z = 123 then F_X5_isSet else if z = 131 then F_X5_isSill else if z = 117 then F_X5_within else if z = 134 then F_X5_isPerson else if z = 132 then F_X5_personAt else if z = 118 then F_X5_become else if z = 116 then F_X5_finding else fun _ _ => none
noncomputable def F_X5_send : List ts_V → ts_S → Option ts_A := ts_Fn E_X5_send tb_X5_send 5
set_option maxRecDepth 20000 in
theorem ok_X5_send : ts_tbo 2 ts_mi [123, 131, 117, 134, 132, 118, 116] (ts_mi 154).1.cls (ts_mi 154).2.2.2.1 (ts_mi 154).2.1 0 tb_X5_send = true := by decide +kernel
theorem con_X5_send {X : ts_X} {l : Launch} (hJ : ts_J X l) : ts_Met X l (ts_mi 154) 2 F_X5_send := ts_con (ts_mi 154) 2 (E := E_X5_send) (mi := ts_mi) (cs := [123, 131, 117, 134, 132, 118, 116]) (tb := tb_X5_send) (plainFor_of_name (by decide +kernel)) hJ.1 (List.forall_mem_cons.mpr ⟨⟨mw_123, 1, by decide, con_X5_isSet hJ⟩, List.forall_mem_cons.mpr ⟨⟨mw_131, 1, by decide, con_X5_isSill hJ⟩, List.forall_mem_cons.mpr ⟨⟨mw_117, 0, by decide, con_X5_within hJ⟩, List.forall_mem_cons.mpr ⟨⟨mw_134, 1, by decide, con_X5_isPerson hJ⟩, List.forall_mem_cons.mpr ⟨⟨mw_132, 0, by decide, con_X5_personAt hJ⟩, List.forall_mem_cons.mpr ⟨⟨mw_118, 0, by decide, con_X5_become hJ⟩, List.forall_mem_cons.mpr ⟨⟨mw_116, 0, by decide, con_X5_finding hJ⟩, fun _ h => absurd h List.not_mem_nil⟩⟩⟩⟩⟩⟩⟩) ok_X5_send
def tb_X5_takes : List (Option ts_I) := [some (.aload_n 0, 0, 0, []), some (.iload_n 1, 1, 0, []), some (.invokevirtual 122, 131, 2, [(4104, 4), (0, 0)]), none, none, some (.ifCond .eq 23, 28, 0, []), none, none, some (.iload_n 2, 2, 0, []), some (.invokestatic 95, 123, 1, [(4090, 9), (0, 0)]), none, none, some (.ifCond .eq 16, 28, 0, []), none, none, some (.aload_n 0, 0, 0, []), some (.aload_n 0, 0, 0, []), some (.iload_n 1, 1, 0, []), some (.iload_n 2, 2, 0, []), some (.invokevirtual 140, 146, 3, [(4172, 4), (0, 0)]), none, none, some (.invokevirtual 143, 121, 2, [(4182, 4), (0, 0)]), none, none, some (.goto 9, 34, 0, []), none, none, some (.aload_n 0, 0, 0, []), some (.ldc 60, 4293967295, 0, [(4062, 0)]), none, some (.invokevirtual 66, 116, 2, [(4063, 4), (0, 0)]), none, none, some (.ireturn, 0, 0, [])]
noncomputable def E_X5_takes : ts_E := fun z => if z = 131 then F_X5_isSill else if z = 123 then F_X5_isSet else if z = 146 then F_X5_takesOf else if z = 121 then F_X5_orNone else if z = 116 then F_X5_finding else fun _ _ => none
noncomputable def F_X5_takes : List ts_V → ts_S → Option ts_A := ts_Fn E_X5_takes tb_X5_takes 3
set_option maxRecDepth 20000 in
theorem ok_X5_takes : ts_tbo 4 ts_mi [131, 123, 146, 121, 116] (ts_mi 155).1.cls (ts_mi 155).2.2.2.1 (ts_mi 155).2.1 0 tb_X5_takes = true := by decide +kernel
theorem con_X5_takes {X : ts_X} {l : Launch} (hJ : ts_J X l) : ts_Met X l (ts_mi 155) 4 F_X5_takes := ts_con (ts_mi 155) 4 (E := E_X5_takes) (mi := ts_mi) (cs := [131, 123, 146, 121, 116]) (tb := tb_X5_takes) (plainFor_of_name (by decide +kernel)) hJ.1 (List.forall_mem_cons.mpr ⟨⟨mw_131, 1, by decide, con_X5_isSill hJ⟩, List.forall_mem_cons.mpr ⟨⟨mw_123, 1, by decide, con_X5_isSet hJ⟩, List.forall_mem_cons.mpr ⟨⟨mw_146, 3, by decide, con_X5_takesOf hJ⟩, List.forall_mem_cons.mpr ⟨⟨mw_121, 1, by decide, con_X5_orNone hJ⟩, List.forall_mem_cons.mpr ⟨⟨mw_116, 0, by decide, con_X5_finding hJ⟩, fun _ h => absurd h List.not_mem_nil⟩⟩⟩⟩⟩) ok_X5_takes
def tb_X5_more : List (Option ts_I) := [some (.aload_n 0, 0, 0, []), some (.getfield 9, 4, 0, [(3224, 0)]), none, none, some (.iload_n 1, 1, 0, []), some (.iload_n 3, 3, 0, []), some (.aload_n 0, 0, 0, []), some (.getfield 9, 4, 0, [(3224, 0)]), none, none, some (.iload_n 1, 1, 0, []), some (.iaload, 0, 0, []), some (.iload_n 2, 2, 0, []), some (.iadd, 0, 0, []), some (.invokestatic 146, 27, 2, [(4207, 9), (0, 0)]), none, none, some (.iastore, 0, 0, []), some (.return_, 0, 0, [])]
noncomputable def E_X5_more : ts_E := fun z => if z = 27 then F_J9_min_7cf53 else fun _ _ => none
noncomputable def F_X5_more : List ts_V → ts_S → Option ts_A := ts_Fn E_X5_more tb_X5_more 4
set_option maxRecDepth 20000 in
theorem ok_X5_more : ts_tbo 1 ts_mi [27] (ts_mi 156).1.cls (ts_mi 156).2.2.2.1 (ts_mi 156).2.1 0 tb_X5_more = true := by decide +kernel
theorem con_X5_more {X : ts_X} {l : Launch} (hJ : ts_J X l) : ts_Met X l (ts_mi 156) 1 F_X5_more := ts_con (ts_mi 156) 1 (E := E_X5_more) (mi := ts_mi) (cs := [27]) (tb := tb_X5_more) (plainFor_of_name (by decide +kernel)) hJ.1 (List.forall_mem_cons.mpr ⟨⟨mw_27, 0, by decide, con_J9_min_7cf53 hJ⟩, fun _ h => absurd h List.not_mem_nil⟩) ok_X5_more
def tb_X5_mayCross : List (Option ts_I) := [some (.aload_n 0, 0, 0, []), some (.iload_n 1, 1, 0, []), some (.iconst 1, 1, 0, []), some (.invokevirtual 137, 133, 3, [(4160, 4), (0, 0)]), none, none, some (.istore_n 3, 3, 0, []), some (.aload_n 0, 0, 0, []), some (.iload_n 2, 2, 0, []), some (.iconst 2, 2, 0, []), some (.invokevirtual 101, 130, 3, [(4112, 4), (0, 0)]), none, none, some (.ifCond .ne 17, 30, 0, []), none, none, some (.iload_n 3, 3, 0, []), some (.iconst (-1), 4294967295, 0, []), some (.if_icmp .eq 8, 26, 0, []), none, none, some (.iload_n 3, 3, 0, []), some (.iload_n 2, 2, 0, []), some (.if_icmp .ne 7, 30, 0, []), none, none, some (.iconst 1, 1, 0, []), some (.goto 4, 31, 0, []), none, none, some (.iconst 0, 0, 0, []), some (.ireturn, 1, 0, [])]
noncomputable def E_X5_mayCross : ts_E := fun z => if z = 133 then F_X5_personIs else if z = 130 then F_X5_sillIs else fun _ _ => none
noncomputable def F_X5_mayCross : List ts_V → ts_S → Option ts_A := ts_Fn E_X5_mayCross tb_X5_mayCross 4
set_option maxRecDepth 20000 in
theorem ok_X5_mayCross : ts_tbo 2 ts_mi [133, 130] (ts_mi 157).1.cls (ts_mi 157).2.2.2.1 (ts_mi 157).2.1 0 tb_X5_mayCross = true := by decide +kernel
theorem con_X5_mayCross {X : ts_X} {l : Launch} (hJ : ts_J X l) : ts_Met X l (ts_mi 157) 2 F_X5_mayCross := ts_con (ts_mi 157) 2 (E := E_X5_mayCross) (mi := ts_mi) (cs := [133, 130]) (tb := tb_X5_mayCross) (plainFor_of_name (by decide +kernel)) hJ.1 (List.forall_mem_cons.mpr ⟨⟨mw_133, 1, by decide, con_X5_personIs hJ⟩, List.forall_mem_cons.mpr ⟨⟨mw_130, 1, by decide, con_X5_sillIs hJ⟩, fun _ h => absurd h List.not_mem_nil⟩⟩) ok_X5_mayCross
def tb_X5_goesIn : List (Option ts_I) := [some (.aload_n 0, 0, 0, []), some (.iload_n 2, 2, 0, []), some (.aload_n 0, 0, 0, []), some (.iload_n 1, 1, 0, []), some (.iconst 0, 0, 0, []), some (.invokevirtual 137, 133, 3, [(4160, 4), (0, 0)]), none, none, some (.invokevirtual 140, 146, 3, [(4172, 4), (0, 0)]), none, none, some (.istore_n 3, 3, 0, []), some (.aload_n 0, 0, 0, []), some (.getfield 9, 4, 0, [(3224, 0)]), none, none, some (.iload_n 1, 1, 0, []), some (.iconst 1, 1, 0, []), some (.invokestatic 85, 132, 2, [(4097, 9), (0, 0)]), none, none, some (.iload_n 2, 2, 0, []), some (.iastore, 0, 0, []), some (.iload_n 3, 3, 0, []), some (.ifCond .lt 53, 77, 0, []), none, none, some (.aload_n 0, 0, 0, []), some (.getfield 9, 4, 0, [(3224, 0)]), none, none, some (.iload_n 1, 1, 0, []), some (.iconst 0, 0, 0, []), some (.invokestatic 85, 132, 2, [(4097, 9), (0, 0)]), none, none, some (.dup2, 0, 0, []), some (.iaload, 0, 0, []), some (.iconst 1, 1, 0, []), some (.iload_n 3, 3, 0, []), some (.ishl, 0, 0, []), some (.iconst (-1), 4294967295, 0, []), some (.ixor, 0, 0, []), some (.iand, 0, 0, []), some (.iastore, 0, 0, []), some (.aload_n 0, 0, 0, []), some (.iload_n 2, 2, 0, []), some (.iconst 3, 3, 0, []), some (.invokevirtual 101, 130, 3, [(4112, 4), (0, 0)]), none, none, some (.aload_n 0, 0, 0, []), some (.iload_n 2, 2, 0, []), some (.invokevirtual 116, 140, 2, [(4116, 4), (0, 0)]), none, none, some (.if_icmp .ge 13, 69, 0, []), none, none, some (.aload_n 0, 0, 0, []), some (.iload_n 2, 2, 0, []), some (.iload_n 3, 3, 0, []), some (.invokevirtual 131, 151, 3, [(4148, 4), (0, 0)]), none, none, some (.pop, 0, 0, []), some (.goto 11, 77, 0, []), none, none, some (.aload_n 0, 0, 0, []), some (.iconst 4, 4, 0, []), some (.iconst 1, 1, 0, []), some (.ldc 151, 99999, 0, [(4202, 0)]), none, some (.invokevirtual 152, 156, 4, [(4203, 4), (1, 0)]), none, none, some (.iload_n 3, 3, 0, []), some (.ireturn, 0, 0, [])]
noncomputable def E_X5_goesIn : ts_E := fun z => if z = 133 then F_X5_personIs else if z = 146 then F_X5_takesOf else if z = 132 then F_X5_personAt else if z = 130 then F_X5_sillIs else if z = 140 then F_X5_holds else if z = 151 then F_X5_lays else if z = 156 then F_X5_more else fun _ _ => none
noncomputable def F_X5_goesIn : List ts_V → ts_S → Option ts_A := ts_Fn E_X5_goesIn tb_X5_goesIn 4
set_option maxRecDepth 20000 in
theorem ok_X5_goesIn : ts_tbo 4 ts_mi [133, 146, 132, 130, 140, 151, 156] (ts_mi 158).1.cls (ts_mi 158).2.2.2.1 (ts_mi 158).2.1 0 tb_X5_goesIn = true := by decide +kernel
theorem con_X5_goesIn {X : ts_X} {l : Launch} (hJ : ts_J X l) : ts_Met X l (ts_mi 158) 4 F_X5_goesIn := ts_con (ts_mi 158) 4 (E := E_X5_goesIn) (mi := ts_mi) (cs := [133, 146, 132, 130, 140, 151, 156]) (tb := tb_X5_goesIn) (plainFor_of_name (by decide +kernel)) hJ.1 (List.forall_mem_cons.mpr ⟨⟨mw_133, 1, by decide, con_X5_personIs hJ⟩, List.forall_mem_cons.mpr ⟨⟨mw_146, 3, by decide, con_X5_takesOf hJ⟩, List.forall_mem_cons.mpr ⟨⟨mw_132, 0, by decide, con_X5_personAt hJ⟩, List.forall_mem_cons.mpr ⟨⟨mw_130, 1, by decide, con_X5_sillIs hJ⟩, List.forall_mem_cons.mpr ⟨⟨mw_140, 2, by decide, con_X5_holds hJ⟩, List.forall_mem_cons.mpr ⟨⟨mw_151, 2, by decide, con_X5_lays hJ⟩, List.forall_mem_cons.mpr ⟨⟨mw_156, 1, by decide, con_X5_more hJ⟩, fun _ h => absurd h List.not_mem_nil⟩⟩⟩⟩⟩⟩⟩) ok_X5_goesIn
def tb_X5_comesOut : List (Option ts_I) := [some (.aload_n 0, 0, 0, []), some (.iload_n 2, 2, 0, []), some (.invokevirtual 104, 142, 2, [(4128, 4), (0, 0)]), none, none, some (.istore_n 3, 3, 0, []), some (.aload_n 0, 0, 0, []), some (.iload_n 2, 2, 0, []), some (.invokevirtual 119, 143, 2, [(4124, 4), (0, 0)]), none, none, some (.istore 4, 4, 0, []), none, some (.aload_n 0, 0, 0, []), some (.getfield 9, 4, 0, [(3224, 0)]), none, none, some (.iload_n 1, 1, 0, []), some (.iconst 1, 1, 0, []), some (.invokestatic 85, 132, 2, [(4097, 9), (0, 0)]), none, none, some (.iconst (-1), 4294967295, 0, []), some (.iastore, 0, 0, []), some (.iload_n 3, 3, 0, []), some (.ifCond .lt 106, 131, 0, []), none, none, some (.iload_n 3, 3, 0, []), some (.istore 5, 5, 0, []), none, some (.iload 5, 5, 0, []), none, some (.aload_n 0, 0, 0, []), some (.iload_n 2, 2, 0, []), some (.iconst 3, 3, 0, []), some (.invokevirtual 101, 130, 3, [(4112, 4), (0, 0)]), none, none, some (.iconst 1, 1, 0, []), some (.isub, 0, 0, []), some (.if_icmp .ge 33, 74, 0, []), none, none, some (.aload_n 0, 0, 0, []), some (.getfield 9, 4, 0, [(3224, 0)]), none, none, some (.iload_n 2, 2, 0, []), some (.iconst 4, 4, 0, []), some (.iload 5, 5, 0, []), none, some (.iadd, 0, 0, []), some (.invokestatic 82, 129, 2, [(4083, 9), (0, 0)]), none, none, some (.aload_n 0, 0, 0, []), some (.iload_n 2, 2, 0, []), some (.iconst 4, 4, 0, []), some (.iload 5, 5, 0, []), none, some (.iadd, 0, 0, []), some (.iconst 1, 1, 0, []), some (.iadd, 0, 0, []), some (.invokevirtual 101, 130, 3, [(4112, 4), (0, 0)]), none, none, some (.iastore, 0, 0, []), some (.iinc 5 1, 5, 1, []), none, none, some (.goto (-40), 31, 0, []), none, none, some (.aload_n 0, 0, 0, []), some (.getfield 9, 4, 0, [(3224, 0)]), none, none, some (.iload_n 2, 2, 0, []), some (.iconst 3, 3, 0, []), some (.invokestatic 82, 129, 2, [(4083, 9), (0, 0)]), none, none, some (.dup2, 0, 0, []), some (.iaload, 0, 0, []), some (.iconst 1, 1, 0, []), some (.isub, 0, 0, []), some (.iastore, 0, 0, []), some (.aload_n 0, 0, 0, []), some (.iload_n 1, 1, 0, []), some (.iconst 0, 0, 0, []), some (.invokevirtual 137, 133, 3, [(4160, 4), (0, 0)]), none, none, some (.iload 4, 4, 0, []), none, some (.ishr, 0, 0, []), some (.iconst 1, 1, 0, []), some (.iand, 0, 0, []), some (.iconst 1, 1, 0, []), some (.if_icmp .ne 14, 114, 0, []), none, none, some (.aload_n 0, 0, 0, []), some (.iconst 4, 4, 0, []), some (.iconst 1, 1, 0, []), some (.ldc 151, 99999, 0, [(4202, 0)]), none, some (.invokevirtual 152, 156, 4, [(4203, 4), (1, 0)]), none, none, some (.goto 20, 131, 0, []), none, none, some (.aload_n 0, 0, 0, []), some (.getfield 9, 4, 0, [(3224, 0)]), none, none, some (.iload_n 1, 1, 0, []), some (.iconst 0, 0, 0, []), some (.invokestatic 85, 132, 2, [(4097, 9), (0, 0)]), none, none, some (.dup2, 0, 0, []), some (.iaload, 0, 0, []), some (.iconst 1, 1, 0, []), some (.iload 4, 4, 0, []), none, some (.ishl, 0, 0, []), some (.ior, 0, 0, []), some (.iastore, 0, 0, []), some (.iload 4, 4, 0, []), none, some (.ireturn, 0, 0, [])]
noncomputable def E_X5_comesOut : ts_E := fun z => if z = 142 then F_X5_givesFrom else if z = 143 then F_X5_gives else if z = 132 then F_X5_personAt else if z = 130 then F_X5_sillIs else if z = 129 then F_X5_sillAt else if z = 133 then F_X5_personIs else if z = 156 then F_X5_more else fun _ _ => none
noncomputable def F_X5_comesOut : List ts_V → ts_S → Option ts_A := ts_Fn E_X5_comesOut tb_X5_comesOut 6
set_option maxRecDepth 20000 in
theorem ok_X5_comesOut : ts_tbo 4 ts_mi [142, 143, 132, 130, 129, 133, 156] (ts_mi 159).1.cls (ts_mi 159).2.2.2.1 (ts_mi 159).2.1 0 tb_X5_comesOut = true := by decide +kernel
theorem con_X5_comesOut {X : ts_X} {l : Launch} (hJ : ts_J X l) : ts_Met X l (ts_mi 159) 4 F_X5_comesOut := ts_con (ts_mi 159) 4 (E := E_X5_comesOut) (mi := ts_mi) (cs := [142, 143, 132, 130, 129, 133, 156]) (tb := tb_X5_comesOut) (plainFor_of_name (by decide +kernel)) hJ.1 (List.forall_mem_cons.mpr ⟨⟨mw_142, 2, by decide, con_X5_givesFrom hJ⟩, List.forall_mem_cons.mpr ⟨⟨mw_143, 3, by decide, con_X5_gives hJ⟩, List.forall_mem_cons.mpr ⟨⟨mw_132, 0, by decide, con_X5_personAt hJ⟩, List.forall_mem_cons.mpr ⟨⟨mw_130, 1, by decide, con_X5_sillIs hJ⟩, List.forall_mem_cons.mpr ⟨⟨mw_129, 0, by decide, con_X5_sillAt hJ⟩, List.forall_mem_cons.mpr ⟨⟨mw_133, 1, by decide, con_X5_personIs hJ⟩, List.forall_mem_cons.mpr ⟨⟨mw_156, 1, by decide, con_X5_more hJ⟩, fun _ h => absurd h List.not_mem_nil⟩⟩⟩⟩⟩⟩⟩) ok_X5_comesOut
def tb_X5_crosses : List (Option ts_I) := [some (.aload_n 0, 0, 0, []), some (.iload_n 1, 1, 0, []), some (.iconst 1, 1, 0, []), some (.invokevirtual 137, 133, 3, [(4160, 4), (0, 0)]), none, none, some (.iconst (-1), 4294967295, 0, []), some (.if_icmp .ne 12, 19, 0, []), none, none, some (.aload_n 0, 0, 0, []), some (.iload_n 1, 1, 0, []), some (.iload_n 2, 2, 0, []), some (.invokevirtual 156, 158, 3, [(4198, 4), (0, 0)]), none, none, some (.goto 9, 25, 0, []), none, none, some (.aload_n 0, 0, 0, []), some (.iload_n 1, 1, 0, []), some (.iload_n 2, 2, 0, []), some (.invokevirtual 159, 159, 3, [(4208, 4), (0, 0)]), none, none, some (.istore_n 3, 3, 0, []), some (.aload_n 0, 0, 0, []), some (.iload_n 2, 2, 0, []), some (.iconst 1, 1, 0, []), some (.invokestatic 82, 129, 2, [(4083, 9), (0, 0)]), none, none, some (.iconst 1, 1, 0, []), some (.sipush 9999, 9999, 0, []), none, none, some (.invokevirtual 152, 156, 4, [(4203, 4), (1, 0)]), none, none, some (.aload_n 0, 0, 0, []), some (.iload_n 1, 1, 0, []), some (.iconst 2, 2, 0, []), some (.invokestatic 85, 132, 2, [(4097, 9), (0, 0)]), none, none, some (.iconst 1, 1, 0, []), some (.sipush 9999, 9999, 0, []), none, none, some (.invokevirtual 152, 156, 4, [(4203, 4), (1, 0)]), none, none, some (.iload_n 3, 3, 0, []), some (.ireturn, 0, 0, [])]
noncomputable def E_X5_crosses : ts_E := fun z => if z = 133 then F_X5_personIs else if z = 158 then F_X5_goesIn else if z = 159 then F_X5_comesOut else if z = 129 then F_X5_sillAt else if z = 156 then F_X5_more else if z = 132 then F_X5_personAt else fun _ _ => none
noncomputable def F_X5_crosses : List ts_V → ts_S → Option ts_A := ts_Fn E_X5_crosses tb_X5_crosses 4
set_option maxRecDepth 20000 in
theorem ok_X5_crosses : ts_tbo 5 ts_mi [133, 158, 159, 129, 156, 132] (ts_mi 160).1.cls (ts_mi 160).2.2.2.1 (ts_mi 160).2.1 0 tb_X5_crosses = true := by decide +kernel
theorem con_X5_crosses {X : ts_X} {l : Launch} (hJ : ts_J X l) : ts_Met X l (ts_mi 160) 5 F_X5_crosses := ts_con (ts_mi 160) 5 (E := E_X5_crosses) (mi := ts_mi) (cs := [133, 158, 159, 129, 156, 132]) (tb := tb_X5_crosses) (plainFor_of_name (by decide +kernel)) hJ.1 (List.forall_mem_cons.mpr ⟨⟨mw_133, 1, by decide, con_X5_personIs hJ⟩, List.forall_mem_cons.mpr ⟨⟨mw_158, 4, by decide, con_X5_goesIn hJ⟩, List.forall_mem_cons.mpr ⟨⟨mw_159, 4, by decide, con_X5_comesOut hJ⟩, List.forall_mem_cons.mpr ⟨⟨mw_129, 0, by decide, con_X5_sillAt hJ⟩, List.forall_mem_cons.mpr ⟨⟨mw_156, 1, by decide, con_X5_more hJ⟩, List.forall_mem_cons.mpr ⟨⟨mw_132, 0, by decide, con_X5_personAt hJ⟩, fun _ h => absurd h List.not_mem_nil⟩⟩⟩⟩⟩⟩) ok_X5_crosses
def tb_X5_cross : List (Option ts_I) := [some (.aload_n 0, 0, 0, []), some (.iload_n 1, 1, 0, []), some (.invokevirtual 134, 134, 2, [(4156, 4), (0, 0)]), none, none, some (.ifCond .eq 11, 16, 0, []), none, none, some (.aload_n 0, 0, 0, []), some (.iload_n 2, 2, 0, []), some (.invokevirtual 122, 131, 2, [(4104, 4), (0, 0)]), none, none, some (.ifCond .ne 10, 23, 0, []), none, none, some (.aload_n 0, 0, 0, []), some (.ldc 60, 4293967295, 0, [(4062, 0)]), none, some (.invokevirtual 66, 116, 2, [(4063, 4), (0, 0)]), none, none, some (.ireturn, 0, 0, []), some (.aload_n 0, 0, 0, []), some (.iload_n 1, 1, 0, []), some (.iload_n 2, 2, 0, []), some (.invokevirtual 162, 157, 3, [(4190, 4), (0, 0)]), none, none, some (.ifCond .eq 12, 41, 0, []), none, none, some (.aload_n 0, 0, 0, []), some (.iload_n 1, 1, 0, []), some (.iload_n 2, 2, 0, []), some (.invokevirtual 166, 160, 3, [(4194, 4), (0, 0)]), none, none, some (.goto 9, 47, 0, []), none, none, some (.aload_n 0, 0, 0, []), some (.ldc 169, 4293967291, 0, [(4212, 0)]), none, some (.invokevirtual 66, 116, 2, [(4063, 4), (0, 0)]), none, none, some (.ireturn, 0, 0, [])]
noncomputable def E_X5_cross : ts_E := fun z => if z = 134 then F_X5_isPerson else if z = 131 then F_X5_isSill else if z = 116 then F_X5_finding else if z = 157 then F_X5_mayCross else if z = 160 then F_X5_crosses else fun _ _ => none
noncomputable def F_X5_cross : List ts_V → ts_S → Option ts_A := ts_Fn E_X5_cross tb_X5_cross 3
set_option maxRecDepth 20000 in
theorem ok_X5_cross : ts_tbo 6 ts_mi [134, 131, 116, 157, 160] (ts_mi 161).1.cls (ts_mi 161).2.2.2.1 (ts_mi 161).2.1 0 tb_X5_cross = true := by decide +kernel
theorem con_X5_cross {X : ts_X} {l : Launch} (hJ : ts_J X l) : ts_Met X l (ts_mi 161) 6 F_X5_cross := ts_con (ts_mi 161) 6 (E := E_X5_cross) (mi := ts_mi) (cs := [134, 131, 116, 157, 160]) (tb := tb_X5_cross) (plainFor_of_name (by decide +kernel)) hJ.1 (List.forall_mem_cons.mpr ⟨⟨mw_134, 1, by decide, con_X5_isPerson hJ⟩, List.forall_mem_cons.mpr ⟨⟨mw_131, 1, by decide, con_X5_isSill hJ⟩, List.forall_mem_cons.mpr ⟨⟨mw_116, 0, by decide, con_X5_finding hJ⟩, List.forall_mem_cons.mpr ⟨⟨mw_157, 2, by decide, con_X5_mayCross hJ⟩, List.forall_mem_cons.mpr ⟨⟨mw_160, 5, by decide, con_X5_crosses hJ⟩, fun _ h => absurd h List.not_mem_nil⟩⟩⟩⟩⟩) ok_X5_cross
def tb_X5_day : List (Option ts_I) := [some (.aload_n 0, 0, 0, []), some (.getfield 9, 4, 0, [(3224, 0)]), none, none, some (.aload_n 0, 0, 0, []), some (.invokevirtual 170, 128, 1, [(4225, 4), (0, 0)]), none, none, some (.iaload, 0, 0, []), some (.bipush 10, 10, 0, []), none, some (.idiv, 0, 0, []), some (.istore_n 1, 1, 0, []), some (.aload_n 0, 0, 0, []), some (.getfield 9, 4, 0, [(3224, 0)]), none, none, some (.aload_n 0, 0, 0, []), some (.invokevirtual 170, 128, 1, [(4225, 4), (0, 0)]), none, none, some (.iaload, 0, 0, []), some (.bipush 10, 10, 0, []), none, some (.irem, 0, 0, []), some (.istore_n 2, 2, 0, []), some (.aload_n 0, 0, 0, []), some (.iload_n 1, 1, 0, []), some (.invokevirtual 134, 134, 2, [(4156, 4), (0, 0)]), none, none, some (.ifCond .eq 27, 58, 0, []), none, none, some (.aload_n 0, 0, 0, []), some (.iload_n 2, 2, 0, []), some (.invokevirtual 122, 131, 2, [(4104, 4), (0, 0)]), none, none, some (.ifCond .eq 19, 58, 0, []), none, none, some (.aload_n 0, 0, 0, []), some (.iload_n 1, 1, 0, []), some (.iload_n 2, 2, 0, []), some (.invokevirtual 162, 157, 3, [(4190, 4), (0, 0)]), none, none, some (.ifCond .eq 10, 58, 0, []), none, none, some (.aload_n 0, 0, 0, []), some (.iload_n 1, 1, 0, []), some (.iload_n 2, 2, 0, []), some (.invokevirtual 166, 160, 3, [(4194, 4), (0, 0)]), none, none, some (.pop, 0, 0, []), some (.aload_n 0, 0, 0, []), some (.iconst 0, 0, 0, []), some (.iconst 1, 1, 0, []), some (.ldc 151, 99999, 0, [(4202, 0)]), none, some (.invokevirtual 152, 156, 4, [(4203, 4), (1, 0)]), none, none, some (.return_, 0, 0, [])]
noncomputable def E_X5_day : ts_E := fun z => if z = 128 then F_X5_placeNow else if z = 134 then F_X5_isPerson else if z = 131 then F_X5_isSill else if z = 157 then F_X5_mayCross else if z = 160 then F_X5_crosses else if z = 156 then F_X5_more else fun _ _ => none
noncomputable def F_X5_day : List ts_V → ts_S → Option ts_A := ts_Fn E_X5_day tb_X5_day 3
set_option maxRecDepth 20000 in
theorem ok_X5_day : ts_tbo 6 ts_mi [128, 134, 131, 157, 160, 156] (ts_mi 162).1.cls (ts_mi 162).2.2.2.1 (ts_mi 162).2.1 0 tb_X5_day = true := by decide +kernel
theorem con_X5_day {X : ts_X} {l : Launch} (hJ : ts_J X l) : ts_Met X l (ts_mi 162) 6 F_X5_day := ts_con (ts_mi 162) 6 (E := E_X5_day) (mi := ts_mi) (cs := [128, 134, 131, 157, 160, 156]) (tb := tb_X5_day) (plainFor_of_name (by decide +kernel)) hJ.1 (List.forall_mem_cons.mpr ⟨⟨mw_128, 0, by decide, con_X5_placeNow hJ⟩, List.forall_mem_cons.mpr ⟨⟨mw_134, 1, by decide, con_X5_isPerson hJ⟩, List.forall_mem_cons.mpr ⟨⟨mw_131, 1, by decide, con_X5_isSill hJ⟩, List.forall_mem_cons.mpr ⟨⟨mw_157, 2, by decide, con_X5_mayCross hJ⟩, List.forall_mem_cons.mpr ⟨⟨mw_160, 5, by decide, con_X5_crosses hJ⟩, List.forall_mem_cons.mpr ⟨⟨mw_156, 1, by decide, con_X5_more hJ⟩, fun _ h => absurd h List.not_mem_nil⟩⟩⟩⟩⟩⟩) ok_X5_day
def tb_X5_daysGo : List (Option ts_I) := [some (.iconst 0, 0, 0, []), some (.istore_n 2, 2, 0, []), some (.iload_n 2, 2, 0, []), some (.iload_n 1, 1, 0, []), some (.if_icmp .ge 13, 17, 0, []), none, none, some (.aload_n 0, 0, 0, []), some (.invokevirtual 174, 162, 1, [(4221, 4), (1, 0)]), none, none, some (.iinc 2 1, 2, 1, []), none, none, some (.goto (-12), 2, 0, []), none, none, some (.return_, 0, 0, [])]
noncomputable def E_X5_daysGo : ts_E := fun z => if z = 162 then F_X5_day else fun _ _ => none
noncomputable def F_X5_daysGo : List ts_V → ts_S → Option ts_A := ts_Fn E_X5_daysGo tb_X5_daysGo 3
set_option maxRecDepth 20000 in
theorem ok_X5_daysGo : ts_tbo 7 ts_mi [162] (ts_mi 163).1.cls (ts_mi 163).2.2.2.1 (ts_mi 163).2.1 0 tb_X5_daysGo = true := by decide +kernel
theorem con_X5_daysGo {X : ts_X} {l : Launch} (hJ : ts_J X l) : ts_Met X l (ts_mi 163) 7 F_X5_daysGo := ts_con (ts_mi 163) 7 (E := E_X5_daysGo) (mi := ts_mi) (cs := [162]) (tb := tb_X5_daysGo) (plainFor_of_name (by decide +kernel)) hJ.1 (List.forall_mem_cons.mpr ⟨⟨mw_162, 6, by decide, con_X5_day hJ⟩, fun _ h => absurd h List.not_mem_nil⟩) ok_X5_daysGo
def tb_X5_go : List (Option ts_I) := [some (.iload_n 1, 1, 0, []), some (.iconst 1, 1, 0, []), some (.bipush 60, 60, 0, []), none, some (.invokestatic 70, 117, 3, [(4055, 9), (0, 0)]), none, none, some (.ifCond .ne 10, 17, 0, []), none, none, some (.aload_n 0, 0, 0, []), some (.ldc 60, 4293967295, 0, [(4062, 0)]), none, some (.invokevirtual 66, 116, 2, [(4063, 4), (0, 0)]), none, none, some (.ireturn, 0, 0, []), some (.aload_n 0, 0, 0, []), some (.getfield 9, 4, 0, [(3224, 0)]), none, none, some (.iconst 0, 0, 0, []), some (.iaload, 0, 0, []), some (.iload_n 1, 1, 0, []), some (.iadd, 0, 0, []), some (.ldc 151, 99999, 0, [(4202, 0)]), none, some (.if_icmp .le 10, 37, 0, []), none, none, some (.aload_n 0, 0, 0, []), some (.ldc 169, 4293967291, 0, [(4212, 0)]), none, some (.invokevirtual 66, 116, 2, [(4063, 4), (0, 0)]), none, none, some (.ireturn, 0, 0, []), some (.aload_n 0, 0, 0, []), some (.iload_n 1, 1, 0, []), some (.invokevirtual 177, 163, 2, [(4217, 4), (1, 0)]), none, none, some (.aload_n 0, 0, 0, []), some (.getfield 9, 4, 0, [(3224, 0)]), none, none, some (.iconst 4, 4, 0, []), some (.iaload, 0, 0, []), some (.ireturn, 0, 0, [])]
noncomputable def E_X5_go : ts_E := fun z => if z = 117 then F_X5_within else if z = 116 then F_X5_finding else if z = 163 then F_X5_daysGo else fun _ _ => none
noncomputable def F_X5_go : List ts_V → ts_S → Option ts_A := ts_Fn E_X5_go tb_X5_go 2
set_option maxRecDepth 20000 in
theorem ok_X5_go : ts_tbo 8 ts_mi [117, 116, 163] (ts_mi 164).1.cls (ts_mi 164).2.2.2.1 (ts_mi 164).2.1 0 tb_X5_go = true := by decide +kernel
theorem con_X5_go {X : ts_X} {l : Launch} (hJ : ts_J X l) : ts_Met X l (ts_mi 164) 8 F_X5_go := ts_con (ts_mi 164) 8 (E := E_X5_go) (mi := ts_mi) (cs := [117, 116, 163]) (tb := tb_X5_go) (plainFor_of_name (by decide +kernel)) hJ.1 (List.forall_mem_cons.mpr ⟨⟨mw_117, 0, by decide, con_X5_within hJ⟩, List.forall_mem_cons.mpr ⟨⟨mw_116, 0, by decide, con_X5_finding hJ⟩, List.forall_mem_cons.mpr ⟨⟨mw_163, 7, by decide, con_X5_daysGo hJ⟩, fun _ h => absurd h List.not_mem_nil⟩⟩⟩) ok_X5_go
def tb_X5_sumOf : List (Option ts_I) := [some (.iconst 0, 0, 0, []), some (.istore_n 2, 2, 0, []), some (.iconst 0, 0, 0, []), some (.istore_n 3, 3, 0, []), some (.iload_n 3, 3, 0, []), some (.aload_n 0, 0, 0, []), some (.getfield 9, 4, 0, [(3224, 0)]), none, none, some (.iconst 1, 1, 0, []), some (.iaload, 0, 0, []), some (.if_icmp .ge 18, 29, 0, []), none, none, some (.iload_n 2, 2, 0, []), some (.aload_n 0, 0, 0, []), some (.iload_n 3, 3, 0, []), some (.iload_n 1, 1, 0, []), some (.invokevirtual 101, 130, 3, [(4112, 4), (0, 0)]), none, none, some (.iadd, 0, 0, []), some (.istore_n 2, 2, 0, []), some (.iinc 3 1, 3, 1, []), none, none, some (.goto (-22), 4, 0, []), none, none, some (.iload_n 2, 2, 0, []), some (.ireturn, 0, 0, [])]
noncomputable def E_X5_sumOf : ts_E := fun z => if z = 130 then F_X5_sillIs else fun _ _ => none
noncomputable def F_X5_sumOf : List ts_V → ts_S → Option ts_A := ts_Fn E_X5_sumOf tb_X5_sumOf 4
set_option maxRecDepth 20000 in
theorem ok_X5_sumOf : ts_tbo 2 ts_mi [130] (ts_mi 165).1.cls (ts_mi 165).2.2.2.1 (ts_mi 165).2.1 0 tb_X5_sumOf = true := by decide +kernel
theorem con_X5_sumOf {X : ts_X} {l : Launch} (hJ : ts_J X l) : ts_Met X l (ts_mi 165) 2 F_X5_sumOf := ts_con (ts_mi 165) 2 (E := E_X5_sumOf) (mi := ts_mi) (cs := [130]) (tb := tb_X5_sumOf) (plainFor_of_name (by decide +kernel)) hJ.1 (List.forall_mem_cons.mpr ⟨⟨mw_130, 1, by decide, con_X5_sillIs hJ⟩, fun _ h => absurd h List.not_mem_nil⟩) ok_X5_sumOf
def tb_X5_heard : List (Option ts_I) := [some (.iconst 0, 0, 0, []), some (.istore_n 1, 1, 0, []), some (.iconst 0, 0, 0, []), some (.istore_n 2, 2, 0, []), some (.iload_n 2, 2, 0, []), some (.aload_n 0, 0, 0, []), some (.getfield 9, 4, 0, [(3224, 0)]), none, none, some (.iconst 3, 3, 0, []), some (.iaload, 0, 0, []), some (.if_icmp .ge 18, 29, 0, []), none, none, some (.iload_n 1, 1, 0, []), some (.aload_n 0, 0, 0, []), some (.iload_n 2, 2, 0, []), some (.iconst 0, 0, 0, []), some (.invokevirtual 137, 133, 3, [(4160, 4), (0, 0)]), none, none, some (.ior, 0, 0, []), some (.istore_n 1, 1, 0, []), some (.iinc 2 1, 2, 1, []), none, none, some (.goto (-22), 4, 0, []), none, none, some (.iload_n 1, 1, 0, []), some (.ireturn, 0, 0, [])]
noncomputable def E_X5_heard : ts_E := fun z => if z = 133 then F_X5_personIs else fun _ _ => none
noncomputable def F_X5_heard : List ts_V → ts_S → Option ts_A := ts_Fn E_X5_heard tb_X5_heard 3
set_option maxRecDepth 20000 in
theorem ok_X5_heard : ts_tbo 2 ts_mi [133] (ts_mi 166).1.cls (ts_mi 166).2.2.2.1 (ts_mi 166).2.1 0 tb_X5_heard = true := by decide +kernel
theorem con_X5_heard {X : ts_X} {l : Launch} (hJ : ts_J X l) : ts_Met X l (ts_mi 166) 2 F_X5_heard := ts_con (ts_mi 166) 2 (E := E_X5_heard) (mi := ts_mi) (cs := [133]) (tb := tb_X5_heard) (plainFor_of_name (by decide +kernel)) hJ.1 (List.forall_mem_cons.mpr ⟨⟨mw_133, 1, by decide, con_X5_personIs hJ⟩, fun _ h => absurd h List.not_mem_nil⟩) ok_X5_heard
def tb_X5_allKept : List (Option ts_I) := [some (.iconst 0, 0, 0, []), some (.istore_n 1, 1, 0, []), some (.iconst 0, 0, 0, []), some (.istore_n 2, 2, 0, []), some (.iload_n 2, 2, 0, []), some (.aload_n 0, 0, 0, []), some (.getfield 9, 4, 0, [(3224, 0)]), none, none, some (.iconst 1, 1, 0, []), some (.iaload, 0, 0, []), some (.if_icmp .ge 17, 28, 0, []), none, none, some (.iload_n 1, 1, 0, []), some (.aload_n 0, 0, 0, []), some (.iload_n 2, 2, 0, []), some (.invokevirtual 113, 141, 2, [(4120, 4), (0, 0)]), none, none, some (.ior, 0, 0, []), some (.istore_n 1, 1, 0, []), some (.iinc 2 1, 2, 1, []), none, none, some (.goto (-21), 4, 0, []), none, none, some (.iload_n 1, 1, 0, []), some (.ireturn, 0, 0, [])]
noncomputable def E_X5_allKept : ts_E := fun z => if z = 141 then F_X5_keptSet else fun _ _ => none
noncomputable def F_X5_allKept : List ts_V → ts_S → Option ts_A := ts_Fn E_X5_allKept tb_X5_allKept 3
set_option maxRecDepth 20000 in
theorem ok_X5_allKept : ts_tbo 3 ts_mi [141] (ts_mi 167).1.cls (ts_mi 167).2.2.2.1 (ts_mi 167).2.1 0 tb_X5_allKept = true := by decide +kernel
theorem con_X5_allKept {X : ts_X} {l : Launch} (hJ : ts_J X l) : ts_Met X l (ts_mi 167) 3 F_X5_allKept := ts_con (ts_mi 167) 3 (E := E_X5_allKept) (mi := ts_mi) (cs := [141]) (tb := tb_X5_allKept) (plainFor_of_name (by decide +kernel)) hJ.1 (List.forall_mem_cons.mpr ⟨⟨mw_141, 2, by decide, con_X5_keptSet hJ⟩, fun _ h => absurd h List.not_mem_nil⟩) ok_X5_allKept
def tb_X5_inside : List (Option ts_I) := [some (.iconst 0, 0, 0, []), some (.istore_n 1, 1, 0, []), some (.iconst 0, 0, 0, []), some (.istore_n 2, 2, 0, []), some (.iload_n 2, 2, 0, []), some (.aload_n 0, 0, 0, []), some (.getfield 9, 4, 0, [(3224, 0)]), none, none, some (.iconst 3, 3, 0, []), some (.iaload, 0, 0, []), some (.if_icmp .ge 28, 39, 0, []), none, none, some (.iload_n 1, 1, 0, []), some (.aload_n 0, 0, 0, []), some (.iload_n 2, 2, 0, []), some (.iconst 1, 1, 0, []), some (.invokevirtual 137, 133, 3, [(4160, 4), (0, 0)]), none, none, some (.ifCond .ge 7, 28, 0, []), none, none, some (.iconst 0, 0, 0, []), some (.goto 6, 31, 0, []), none, none, some (.iconst 1, 1, 0, []), some (.iload_n 2, 2, 0, []), some (.ishl, 0, 0, []), some (.ior, 0, 0, []), some (.istore_n 1, 1, 0, []), some (.iinc 2 1, 2, 1, []), none, none, some (.goto (-32), 4, 0, []), none, none, some (.iload_n 1, 1, 0, []), some (.ireturn, 0, 0, [])]
noncomputable def E_X5_inside : ts_E := fun z => if z = 133 then F_X5_personIs else fun _ _ => none
noncomputable def F_X5_inside : List ts_V → ts_S → Option ts_A := ts_Fn E_X5_inside tb_X5_inside 3
set_option maxRecDepth 20000 in
theorem ok_X5_inside : ts_tbo 2 ts_mi [133] (ts_mi 168).1.cls (ts_mi 168).2.2.2.1 (ts_mi 168).2.1 0 tb_X5_inside = true := by decide +kernel
theorem con_X5_inside {X : ts_X} {l : Launch} (hJ : ts_J X l) : ts_Met X l (ts_mi 168) 2 F_X5_inside := ts_con (ts_mi 168) 2 (E := E_X5_inside) (mi := ts_mi) (cs := [133]) (tb := tb_X5_inside) (plainFor_of_name (by decide +kernel)) hJ.1 (List.forall_mem_cons.mpr ⟨⟨mw_133, 1, by decide, con_X5_personIs hJ⟩, fun _ h => absurd h List.not_mem_nil⟩) ok_X5_inside
def tb_X5_muteOnes : List (Option ts_I) := [some (.iconst 0, 0, 0, []), some (.istore_n 1, 1, 0, []), some (.iconst 0, 0, 0, []), some (.istore_n 2, 2, 0, []), some (.iload_n 2, 2, 0, []), some (.aload_n 0, 0, 0, []), some (.getfield 9, 4, 0, [(3224, 0)]), none, none, some (.iconst 3, 3, 0, []), some (.iaload, 0, 0, []), some (.if_icmp .ge 28, 39, 0, []), none, none, some (.iload_n 1, 1, 0, []), some (.aload_n 0, 0, 0, []), some (.iload_n 2, 2, 0, []), some (.iconst 0, 0, 0, []), some (.invokevirtual 137, 133, 3, [(4160, 4), (0, 0)]), none, none, some (.ifCond .ne 9, 30, 0, []), none, none, some (.iconst 1, 1, 0, []), some (.iload_n 2, 2, 0, []), some (.ishl, 0, 0, []), some (.goto 4, 31, 0, []), none, none, some (.iconst 0, 0, 0, []), some (.ior, 0, 0, []), some (.istore_n 1, 1, 0, []), some (.iinc 2 1, 2, 1, []), none, none, some (.goto (-32), 4, 0, []), none, none, some (.iload_n 1, 1, 0, []), some (.ireturn, 0, 0, [])]
noncomputable def E_X5_muteOnes : ts_E := fun z => if z = 133 then F_X5_personIs else fun _ _ => none
noncomputable def F_X5_muteOnes : List ts_V → ts_S → Option ts_A := ts_Fn E_X5_muteOnes tb_X5_muteOnes 3
set_option maxRecDepth 20000 in
theorem ok_X5_muteOnes : ts_tbo 2 ts_mi [133] (ts_mi 169).1.cls (ts_mi 169).2.2.2.1 (ts_mi 169).2.1 0 tb_X5_muteOnes = true := by decide +kernel
theorem con_X5_muteOnes {X : ts_X} {l : Launch} (hJ : ts_J X l) : ts_Met X l (ts_mi 169) 2 F_X5_muteOnes := ts_con (ts_mi 169) 2 (E := E_X5_muteOnes) (mi := ts_mi) (cs := [133]) (tb := tb_X5_muteOnes) (plainFor_of_name (by decide +kernel)) hJ.1 (List.forall_mem_cons.mpr ⟨⟨mw_133, 1, by decide, con_X5_personIs hJ⟩, fun _ h => absurd h List.not_mem_nil⟩) ok_X5_muteOnes
end
section
/-! tables, part 4 -/
def tb_X5_now : List (Option ts_I) := [some (.iload_n 1, 1, 0, []), some (.tableswitch 93 0 7 #[47, 54, 61, 66, 71, 76, 81, 87], 94, 47, [(0, 48), (1, 55), (2, 62), (3, 67), (4, 72), (5, 77), (6, 82), (7, 88)]), none, none, none, none, none, none, none, none, none, none, none, none, none, none, none, none, none, none, none, none, none, none, none, none, none, none, none, none, none, none, none, none, none, none, none, none, none, none, none, none, none, none, none, none, none, none, some (.aload_n 0, 0, 0, []), some (.getfield 9, 4, 0, [(3224, 0)]), none, none, some (.iconst 0, 0, 0, []), some (.iaload, 0, 0, []), some (.ireturn, 0, 0, []), some (.aload_n 0, 0, 0, []), some (.getfield 9, 4, 0, [(3224, 0)]), none, none, some (.iconst 4, 4, 0, []), some (.iaload, 0, 0, []), some (.ireturn, 0, 0, []), some (.aload_n 0, 0, 0, []), some (.invokevirtual 181, 166, 1, [(4233, 4), (0, 0)]), none, none, some (.ireturn, 0, 0, []), some (.aload_n 0, 0, 0, []), some (.invokevirtual 184, 167, 1, [(4237, 4), (0, 0)]), none, none, some (.ireturn, 0, 0, []), some (.aload_n 0, 0, 0, []), some (.invokevirtual 187, 168, 1, [(5001, 4), (0, 0)]), none, none, some (.ireturn, 0, 0, []), some (.aload_n 0, 0, 0, []), some (.invokevirtual 190, 169, 1, [(5005, 4), (0, 0)]), none, none, some (.ireturn, 0, 0, []), some (.aload_n 0, 0, 0, []), some (.iconst 1, 1, 0, []), some (.invokevirtual 193, 165, 2, [(5009, 4), (0, 0)]), none, none, some (.ireturn, 0, 0, []), some (.aload_n 0, 0, 0, []), some (.iconst 3, 3, 0, []), some (.invokevirtual 193, 165, 2, [(5009, 4), (0, 0)]), none, none, some (.ireturn, 0, 0, []), some (.aload_n 0, 0, 0, []), some (.ldc 60, 4293967295, 0, [(4062, 0)]), none, some (.invokevirtual 66, 116, 2, [(4063, 4), (0, 0)]), none, none, some (.ireturn, 0, 0, [])]
noncomputable def E_X5_now : ts_E := fun z => if z = 166 then F_X5_heard else if z = 167 then F_X5_allKept else if z = 168 then F_X5_inside else if z = 169 then F_X5_muteOnes else if z = 165 then F_X5_sumOf else if z = 116 then F_X5_finding else fun _ _ => none
noncomputable def F_X5_now : List ts_V → ts_S → Option ts_A := ts_Fn E_X5_now tb_X5_now 2
set_option maxRecDepth 20000 in
theorem ok_X5_now : ts_tbo 4 ts_mi [166, 167, 168, 169, 165, 116] (ts_mi 170).1.cls (ts_mi 170).2.2.2.1 (ts_mi 170).2.1 0 tb_X5_now = true := by decide +kernel
theorem con_X5_now {X : ts_X} {l : Launch} (hJ : ts_J X l) : ts_Met X l (ts_mi 170) 4 F_X5_now := ts_con (ts_mi 170) 4 (E := E_X5_now) (mi := ts_mi) (cs := [166, 167, 168, 169, 165, 116]) (tb := tb_X5_now) (plainFor_of_name (by decide +kernel)) hJ.1 (List.forall_mem_cons.mpr ⟨⟨mw_166, 2, by decide, con_X5_heard hJ⟩, List.forall_mem_cons.mpr ⟨⟨mw_167, 3, by decide, con_X5_allKept hJ⟩, List.forall_mem_cons.mpr ⟨⟨mw_168, 2, by decide, con_X5_inside hJ⟩, List.forall_mem_cons.mpr ⟨⟨mw_169, 2, by decide, con_X5_muteOnes hJ⟩, List.forall_mem_cons.mpr ⟨⟨mw_165, 2, by decide, con_X5_sumOf hJ⟩, List.forall_mem_cons.mpr ⟨⟨mw_116, 0, by decide, con_X5_finding hJ⟩, fun _ h => absurd h List.not_mem_nil⟩⟩⟩⟩⟩⟩) ok_X5_now
def tb_X5_behind : List (Option ts_I) := [some (.aload_n 0, 0, 0, []), some (.getfield 9, 4, 0, [(3224, 0)]), none, none, some (.aload_n 0, 0, 0, []), some (.getfield 16, 4, 2, [(3226, 0)]), none, none, some (.invokestatic 61, 119, 2, [(5017, 9), (1, 0)]), none, none, some (.aload_n 0, 0, 0, []), some (.iload_n 2, 2, 0, []), some (.invokevirtual 177, 163, 2, [(4217, 4), (1, 0)]), none, none, some (.aload_n 0, 0, 0, []), some (.aload_n 0, 0, 0, []), some (.getfield 9, 4, 0, [(3224, 0)]), none, none, some (.iload_n 1, 1, 0, []), some (.iaload, 0, 0, []), some (.invokevirtual 196, 120, 2, [(5020, 4), (0, 0)]), none, none, some (.ireturn, 0, 0, [])]
noncomputable def E_X5_behind : ts_E := fun z => if z = 119 then F_X5_copyRow else if z = 163 then F_X5_daysGo else if z = 120 then F_X5_putBack else fun _ _ => none
noncomputable def F_X5_behind : List ts_V → ts_S → Option ts_A := ts_Fn E_X5_behind tb_X5_behind 3
set_option maxRecDepth 20000 in
theorem ok_X5_behind : ts_tbo 8 ts_mi [119, 163, 120] (ts_mi 171).1.cls (ts_mi 171).2.2.2.1 (ts_mi 171).2.1 0 tb_X5_behind = true := by decide +kernel
theorem con_X5_behind {X : ts_X} {l : Launch} (hJ : ts_J X l) : ts_Met X l (ts_mi 171) 8 F_X5_behind := ts_con (ts_mi 171) 8 (E := E_X5_behind) (mi := ts_mi) (cs := [119, 163, 120]) (tb := tb_X5_behind) (plainFor_of_name (by decide +kernel)) hJ.1 (List.forall_mem_cons.mpr ⟨⟨mw_119, 0, by decide, con_X5_copyRow hJ⟩, List.forall_mem_cons.mpr ⟨⟨mw_163, 7, by decide, con_X5_daysGo hJ⟩, List.forall_mem_cons.mpr ⟨⟨mw_120, 1, by decide, con_X5_putBack hJ⟩, fun _ h => absurd h List.not_mem_nil⟩⟩⟩) ok_X5_behind
def tb_X5_ahead : List (Option ts_I) := [some (.iload_n 2, 2, 0, []), some (.iconst 1, 1, 0, []), some (.iconst 2, 2, 0, []), some (.invokestatic 70, 117, 3, [(4055, 9), (0, 0)]), none, none, some (.ifCond .ne 13, 19, 0, []), none, none, some (.iload_n 2, 2, 0, []), some (.iconst 5, 5, 0, []), some (.bipush 6, 6, 0, []), none, some (.invokestatic 70, 117, 3, [(4055, 9), (0, 0)]), none, none, some (.ifCond .eq 7, 23, 0, []), none, none, some (.iconst 1, 1, 0, []), some (.goto 4, 24, 0, []), none, none, some (.iconst 0, 0, 0, []), some (.istore 4, 4, 0, []), none, some (.aload_n 0, 0, 0, []), some (.iload_n 1, 1, 0, []), some (.invokevirtual 122, 131, 2, [(4104, 4), (0, 0)]), none, none, some (.ifCond .eq 18, 49, 0, []), none, none, some (.iload 4, 4, 0, []), none, some (.ifCond .eq 13, 49, 0, []), none, none, some (.iload_n 3, 3, 0, []), some (.iconst 0, 0, 0, []), some (.bipush 100, 100, 0, []), none, some (.invokestatic 70, 117, 3, [(4055, 9), (0, 0)]), none, none, some (.ifCond .ne 10, 56, 0, []), none, none, some (.aload_n 0, 0, 0, []), some (.ldc 60, 4293967295, 0, [(4062, 0)]), none, some (.invokevirtual 66, 116, 2, [(4063, 4), (0, 0)]), none, none, some (.ireturn, 0, 0, []), some (.aload_n 0, 0, 0, []), some (.getfield 9, 4, 0, [(3224, 0)]), none, none, some (.aload_n 0, 0, 0, []), some (.getfield 16, 4, 2, [(3226, 0)]), none, none, some (.invokestatic 61, 119, 2, [(5017, 9), (1, 0)]), none, none, some (.aload_n 0, 0, 0, []), some (.iload_n 3, 3, 0, []), some (.invokevirtual 177, 163, 2, [(4217, 4), (1, 0)]), none, none, some (.aload_n 0, 0, 0, []), some (.aload_n 0, 0, 0, []), some (.iload_n 1, 1, 0, []), some (.iload_n 2, 2, 0, []), some (.invokevirtual 125, 147, 3, [(4108, 4), (0, 0)]), none, none, some (.invokevirtual 196, 120, 2, [(5020, 4), (0, 0)]), none, none, some (.ireturn, 0, 0, [])]
noncomputable def E_X5_ahead : ts_E := fun z => if z = 117 then F_X5_within else if z = 131 then F_X5_isSill else if z = 116 then F_X5_finding else if z = 119 then F_X5_copyRow else if z = 163 then F_X5_daysGo else if z = 147 then F_X5_told else if z = 120 then F_X5_putBack else fun _ _ => none
noncomputable def F_X5_ahead : List ts_V → ts_S → Option ts_A := ts_Fn E_X5_ahead tb_X5_ahead 5
set_option maxRecDepth 20000 in
theorem ok_X5_ahead : ts_tbo 8 ts_mi [117, 131, 116, 119, 163, 147, 120] (ts_mi 172).1.cls (ts_mi 172).2.2.2.1 (ts_mi 172).2.1 0 tb_X5_ahead = true := by decide +kernel
theorem con_X5_ahead {X : ts_X} {l : Launch} (hJ : ts_J X l) : ts_Met X l (ts_mi 172) 8 F_X5_ahead := ts_con (ts_mi 172) 8 (E := E_X5_ahead) (mi := ts_mi) (cs := [117, 131, 116, 119, 163, 147, 120]) (tb := tb_X5_ahead) (plainFor_of_name (by decide +kernel)) hJ.1 (List.forall_mem_cons.mpr ⟨⟨mw_117, 0, by decide, con_X5_within hJ⟩, List.forall_mem_cons.mpr ⟨⟨mw_131, 1, by decide, con_X5_isSill hJ⟩, List.forall_mem_cons.mpr ⟨⟨mw_116, 0, by decide, con_X5_finding hJ⟩, List.forall_mem_cons.mpr ⟨⟨mw_119, 0, by decide, con_X5_copyRow hJ⟩, List.forall_mem_cons.mpr ⟨⟨mw_163, 7, by decide, con_X5_daysGo hJ⟩, List.forall_mem_cons.mpr ⟨⟨mw_147, 4, by decide, con_X5_told hJ⟩, List.forall_mem_cons.mpr ⟨⟨mw_120, 1, by decide, con_X5_putBack hJ⟩, fun _ h => absurd h List.not_mem_nil⟩⟩⟩⟩⟩⟩⟩) ok_X5_ahead
def tb_X5_later : List (Option ts_I) := [some (.aload_n 0, 0, 0, []), some (.iload_n 1, 1, 0, []), some (.invokevirtual 134, 134, 2, [(4156, 4), (0, 0)]), none, none, some (.ifCond .eq 35, 40, 0, []), none, none, some (.iload_n 2, 2, 0, []), some (.iconst 0, 0, 0, []), some (.iconst 2, 2, 0, []), some (.invokestatic 70, 117, 3, [(4055, 9), (0, 0)]), none, none, some (.ifCond .eq 26, 40, 0, []), none, none, some (.iload_n 3, 3, 0, []), some (.iconst 0, 0, 0, []), some (.bipush 100, 100, 0, []), none, some (.invokestatic 70, 117, 3, [(4055, 9), (0, 0)]), none, none, some (.ifCond .eq 16, 40, 0, []), none, none, some (.aload_n 0, 0, 0, []), some (.iload_n 1, 1, 0, []), some (.iload_n 2, 2, 0, []), some (.invokestatic 85, 132, 2, [(4097, 9), (0, 0)]), none, none, some (.iload_n 3, 3, 0, []), some (.invokevirtual 199, 171, 3, [(5028, 4), (0, 0)]), none, none, some (.goto 9, 46, 0, []), none, none, some (.aload_n 0, 0, 0, []), some (.ldc 60, 4293967295, 0, [(4062, 0)]), none, some (.invokevirtual 66, 116, 2, [(4063, 4), (0, 0)]), none, none, some (.ireturn, 0, 0, [])]
noncomputable def E_X5_later : ts_E := fun z => if z = 134 then F_X5_isPerson else if z = 117 then F_X5_within else if z = 132 then F_X5_personAt else if z = 171 then F_X5_behind else if z = 116 then F_X5_finding else fun _ _ => none
noncomputable def F_X5_later : List ts_V → ts_S → Option ts_A := ts_Fn E_X5_later tb_X5_later 4
set_option maxRecDepth 20000 in
theorem ok_X5_later : ts_tbo 9 ts_mi [134, 117, 132, 171, 116] (ts_mi 173).1.cls (ts_mi 173).2.2.2.1 (ts_mi 173).2.1 0 tb_X5_later = true := by decide +kernel
theorem con_X5_later {X : ts_X} {l : Launch} (hJ : ts_J X l) : ts_Met X l (ts_mi 173) 9 F_X5_later := ts_con (ts_mi 173) 9 (E := E_X5_later) (mi := ts_mi) (cs := [134, 117, 132, 171, 116]) (tb := tb_X5_later) (plainFor_of_name (by decide +kernel)) hJ.1 (List.forall_mem_cons.mpr ⟨⟨mw_134, 1, by decide, con_X5_isPerson hJ⟩, List.forall_mem_cons.mpr ⟨⟨mw_117, 0, by decide, con_X5_within hJ⟩, List.forall_mem_cons.mpr ⟨⟨mw_132, 0, by decide, con_X5_personAt hJ⟩, List.forall_mem_cons.mpr ⟨⟨mw_171, 8, by decide, con_X5_behind hJ⟩, List.forall_mem_cons.mpr ⟨⟨mw_116, 0, by decide, con_X5_finding hJ⟩, fun _ h => absurd h List.not_mem_nil⟩⟩⟩⟩⟩) ok_X5_later
def tb_X5_hasWord : List (Option ts_I) := [some (.aload_n 0, 0, 0, []), some (.iload_n 1, 1, 0, []), some (.iconst 0, 0, 0, []), some (.invokevirtual 137, 133, 3, [(4160, 4), (0, 0)]), none, none, some (.iload_n 2, 2, 0, []), some (.ishr, 0, 0, []), some (.iconst 1, 1, 0, []), some (.iand, 0, 0, []), some (.iconst 1, 1, 0, []), some (.if_icmp .ne 7, 18, 0, []), none, none, some (.iconst 1, 1, 0, []), some (.goto 4, 19, 0, []), none, none, some (.iconst 0, 0, 0, []), some (.ireturn, 1, 0, [])]
noncomputable def E_X5_hasWord : ts_E := fun z => if z = 133 then F_X5_personIs else fun _ _ => none
noncomputable def F_X5_hasWord : List ts_V → ts_S → Option ts_A := ts_Fn E_X5_hasWord tb_X5_hasWord 3
set_option maxRecDepth 20000 in
theorem ok_X5_hasWord : ts_tbo 2 ts_mi [133] (ts_mi 174).1.cls (ts_mi 174).2.2.2.1 (ts_mi 174).2.1 0 tb_X5_hasWord = true := by decide +kernel
theorem con_X5_hasWord {X : ts_X} {l : Launch} (hJ : ts_J X l) : ts_Met X l (ts_mi 174) 2 F_X5_hasWord := ts_con (ts_mi 174) 2 (E := E_X5_hasWord) (mi := ts_mi) (cs := [133]) (tb := tb_X5_hasWord) (plainFor_of_name (by decide +kernel)) hJ.1 (List.forall_mem_cons.mpr ⟨⟨mw_133, 1, by decide, con_X5_personIs hJ⟩, fun _ h => absurd h List.not_mem_nil⟩) ok_X5_hasWord
def tb_X5_hears : List (Option ts_I) := [some (.aload_n 0, 0, 0, []), some (.iload_n 1, 1, 0, []), some (.invokevirtual 134, 134, 2, [(4156, 4), (0, 0)]), none, none, some (.ifCond .eq 10, 15, 0, []), none, none, some (.iload_n 2, 2, 0, []), some (.invokestatic 128, 124, 1, [(4145, 9), (0, 0)]), none, none, some (.ifCond .ne 10, 22, 0, []), none, none, some (.aload_n 0, 0, 0, []), some (.ldc 60, 4293967295, 0, [(4062, 0)]), none, some (.invokevirtual 66, 116, 2, [(4063, 4), (0, 0)]), none, none, some (.ireturn, 0, 0, []), some (.aload_n 0, 0, 0, []), some (.getfield 9, 4, 0, [(3224, 0)]), none, none, some (.aload_n 0, 0, 0, []), some (.getfield 16, 4, 2, [(3226, 0)]), none, none, some (.invokestatic 61, 119, 2, [(5017, 9), (1, 0)]), none, none, some (.iconst 0, 0, 0, []), some (.istore_n 3, 3, 0, []), some (.iload_n 3, 3, 0, []), some (.sipush 200, 200, 0, []), none, none, some (.if_icmp .ge 22, 61, 0, []), none, none, some (.aload_n 0, 0, 0, []), some (.iload_n 1, 1, 0, []), some (.iload_n 2, 2, 0, []), some (.invokevirtual 202, 174, 3, [(5036, 4), (0, 0)]), none, none, some (.ifCond .ne 13, 61, 0, []), none, none, some (.aload_n 0, 0, 0, []), some (.invokevirtual 174, 162, 1, [(4221, 4), (1, 0)]), none, none, some (.iinc 3 1, 3, 1, []), none, none, some (.goto (-23), 35, 0, []), none, none, some (.aload_n 0, 0, 0, []), some (.aload_n 0, 0, 0, []), some (.aload_n 0, 0, 0, []), some (.iload_n 1, 1, 0, []), some (.iload_n 2, 2, 0, []), some (.invokevirtual 202, 174, 3, [(5036, 4), (0, 0)]), none, none, some (.ifCond .eq 7, 76, 0, []), none, none, some (.iload_n 3, 3, 0, []), some (.goto 4, 77, 0, []), none, none, some (.iconst (-1), 4294967295, 0, []), some (.invokevirtual 196, 120, 2, [(5020, 4), (0, 0)]), none, none, some (.invokevirtual 143, 121, 2, [(4182, 4), (0, 0)]), none, none, some (.ireturn, 0, 0, [])]
noncomputable def E_X5_hears : ts_E := fun z => if z = 134 then F_X5_isPerson else if z = 124 then F_X5_isWordNumber else if z = 116 then F_X5_finding else if z = 119 then F_X5_copyRow else if z = 174 then F_X5_hasWord else if z = 162 then F_X5_day else if z = 120 then F_X5_putBack else if z = 121 then F_X5_orNone else fun _ _ => none
noncomputable def F_X5_hears : List ts_V → ts_S → Option ts_A := ts_Fn E_X5_hears tb_X5_hears 4
set_option maxRecDepth 20000 in
theorem ok_X5_hears : ts_tbo 7 ts_mi [134, 124, 116, 119, 174, 162, 120, 121] (ts_mi 175).1.cls (ts_mi 175).2.2.2.1 (ts_mi 175).2.1 0 tb_X5_hears = true := by decide +kernel
theorem con_X5_hears {X : ts_X} {l : Launch} (hJ : ts_J X l) : ts_Met X l (ts_mi 175) 7 F_X5_hears := ts_con (ts_mi 175) 7 (E := E_X5_hears) (mi := ts_mi) (cs := [134, 124, 116, 119, 174, 162, 120, 121]) (tb := tb_X5_hears) (plainFor_of_name (by decide +kernel)) hJ.1 (List.forall_mem_cons.mpr ⟨⟨mw_134, 1, by decide, con_X5_isPerson hJ⟩, List.forall_mem_cons.mpr ⟨⟨mw_124, 1, by decide, con_X5_isWordNumber hJ⟩, List.forall_mem_cons.mpr ⟨⟨mw_116, 0, by decide, con_X5_finding hJ⟩, List.forall_mem_cons.mpr ⟨⟨mw_119, 0, by decide, con_X5_copyRow hJ⟩, List.forall_mem_cons.mpr ⟨⟨mw_174, 2, by decide, con_X5_hasWord hJ⟩, List.forall_mem_cons.mpr ⟨⟨mw_162, 6, by decide, con_X5_day hJ⟩, List.forall_mem_cons.mpr ⟨⟨mw_120, 1, by decide, con_X5_putBack hJ⟩, List.forall_mem_cons.mpr ⟨⟨mw_121, 1, by decide, con_X5_orNone hJ⟩, fun _ h => absurd h List.not_mem_nil⟩⟩⟩⟩⟩⟩⟩⟩) ok_X5_hears
def tb_X5_daysTo : List (Option ts_I) := [some (.aload_n 0, 0, 0, []), some (.getfield 9, 4, 0, [(3224, 0)]), none, none, some (.aload_n 0, 0, 0, []), some (.getfield 16, 4, 2, [(3226, 0)]), none, none, some (.invokestatic 61, 119, 2, [(5017, 9), (1, 0)]), none, none, some (.iconst 0, 0, 0, []), some (.istore 4, 4, 0, []), none, some (.iload 4, 4, 0, []), none, some (.sipush 200, 200, 0, []), none, none, some (.if_icmp .ge 27, 46, 0, []), none, none, some (.aload_n 0, 0, 0, []), some (.getfield 9, 4, 0, [(3224, 0)]), none, none, some (.iload_n 1, 1, 0, []), some (.iaload, 0, 0, []), some (.iload_n 2, 2, 0, []), some (.iload_n 3, 3, 0, []), some (.invokestatic 70, 117, 3, [(4055, 9), (0, 0)]), none, none, some (.ifCond .ne 13, 46, 0, []), none, none, some (.aload_n 0, 0, 0, []), some (.invokevirtual 174, 162, 1, [(4221, 4), (1, 0)]), none, none, some (.iinc 4 1, 4, 1, []), none, none, some (.goto (-29), 14, 0, []), none, none, some (.aload_n 0, 0, 0, []), some (.aload_n 0, 0, 0, []), some (.getfield 9, 4, 0, [(3224, 0)]), none, none, some (.iload_n 1, 1, 0, []), some (.iaload, 0, 0, []), some (.iload_n 2, 2, 0, []), some (.iload_n 3, 3, 0, []), some (.invokestatic 70, 117, 3, [(4055, 9), (0, 0)]), none, none, some (.ifCond .eq 8, 66, 0, []), none, none, some (.iload 4, 4, 0, []), none, some (.goto 4, 67, 0, []), none, none, some (.iconst (-1), 4294967295, 0, []), some (.invokevirtual 196, 120, 2, [(5020, 4), (0, 0)]), none, none, some (.ireturn, 0, 0, [])]
noncomputable def E_X5_daysTo : ts_E := fun z => if z = 119 then F_X5_copyRow else if z = 117 then F_X5_within else if z = 162 then F_X5_day else if z = 120 then F_X5_putBack else fun _ _ => none
noncomputable def F_X5_daysTo : List ts_V → ts_S → Option ts_A := ts_Fn E_X5_daysTo tb_X5_daysTo 5
set_option maxRecDepth 20000 in
theorem ok_X5_daysTo : ts_tbo 7 ts_mi [119, 117, 162, 120] (ts_mi 176).1.cls (ts_mi 176).2.2.2.1 (ts_mi 176).2.1 0 tb_X5_daysTo = true := by decide +kernel
theorem con_X5_daysTo {X : ts_X} {l : Launch} (hJ : ts_J X l) : ts_Met X l (ts_mi 176) 7 F_X5_daysTo := ts_con (ts_mi 176) 7 (E := E_X5_daysTo) (mi := ts_mi) (cs := [119, 117, 162, 120]) (tb := tb_X5_daysTo) (plainFor_of_name (by decide +kernel)) hJ.1 (List.forall_mem_cons.mpr ⟨⟨mw_119, 0, by decide, con_X5_copyRow hJ⟩, List.forall_mem_cons.mpr ⟨⟨mw_117, 0, by decide, con_X5_within hJ⟩, List.forall_mem_cons.mpr ⟨⟨mw_162, 6, by decide, con_X5_day hJ⟩, List.forall_mem_cons.mpr ⟨⟨mw_120, 1, by decide, con_X5_putBack hJ⟩, fun _ h => absurd h List.not_mem_nil⟩⟩⟩⟩) ok_X5_daysTo
def tb_X5_waste : List (Option ts_I) := [some (.iload_n 1, 1, 0, []), some (.iconst 0, 0, 0, []), some (.ldc 151, 99999, 0, [(4202, 0)]), none, some (.invokestatic 70, 117, 3, [(4055, 9), (0, 0)]), none, none, some (.ifCond .eq 18, 25, 0, []), none, none, some (.aload_n 0, 0, 0, []), some (.aload_n 0, 0, 0, []), some (.iconst 4, 4, 0, []), some (.iload_n 1, 1, 0, []), some (.ldc 151, 99999, 0, [(4202, 0)]), none, some (.invokevirtual 205, 176, 4, [(5044, 4), (0, 0)]), none, none, some (.invokevirtual 143, 121, 2, [(4182, 4), (0, 0)]), none, none, some (.goto 9, 31, 0, []), none, none, some (.aload_n 0, 0, 0, []), some (.ldc 60, 4293967295, 0, [(4062, 0)]), none, some (.invokevirtual 66, 116, 2, [(4063, 4), (0, 0)]), none, none, some (.ireturn, 0, 0, [])]
noncomputable def E_X5_waste : ts_E := fun z => if z = 117 then F_X5_within else if z = 176 then F_X5_daysTo else if z = 121 then F_X5_orNone else if z = 116 then F_X5_finding else fun _ _ => none
noncomputable def F_X5_waste : List ts_V → ts_S → Option ts_A := ts_Fn E_X5_waste tb_X5_waste 2
set_option maxRecDepth 20000 in
theorem ok_X5_waste : ts_tbo 8 ts_mi [117, 176, 121, 116] (ts_mi 177).1.cls (ts_mi 177).2.2.2.1 (ts_mi 177).2.1 0 tb_X5_waste = true := by decide +kernel
theorem con_X5_waste {X : ts_X} {l : Launch} (hJ : ts_J X l) : ts_Met X l (ts_mi 177) 8 F_X5_waste := ts_con (ts_mi 177) 8 (E := E_X5_waste) (mi := ts_mi) (cs := [117, 176, 121, 116]) (tb := tb_X5_waste) (plainFor_of_name (by decide +kernel)) hJ.1 (List.forall_mem_cons.mpr ⟨⟨mw_117, 0, by decide, con_X5_within hJ⟩, List.forall_mem_cons.mpr ⟨⟨mw_176, 7, by decide, con_X5_daysTo hJ⟩, List.forall_mem_cons.mpr ⟨⟨mw_121, 1, by decide, con_X5_orNone hJ⟩, List.forall_mem_cons.mpr ⟨⟨mw_116, 0, by decide, con_X5_finding hJ⟩, fun _ h => absurd h List.not_mem_nil⟩⟩⟩⟩) ok_X5_waste
def tb_X5_mute : List (Option ts_I) := [some (.aload_n 0, 0, 0, []), some (.iload_n 1, 1, 0, []), some (.invokevirtual 134, 134, 2, [(4156, 4), (0, 0)]), none, none, some (.ifCond .eq 21, 26, 0, []), none, none, some (.aload_n 0, 0, 0, []), some (.aload_n 0, 0, 0, []), some (.iload_n 1, 1, 0, []), some (.iconst 0, 0, 0, []), some (.invokestatic 85, 132, 2, [(4097, 9), (0, 0)]), none, none, some (.iconst 0, 0, 0, []), some (.iconst 0, 0, 0, []), some (.invokevirtual 205, 176, 4, [(5044, 4), (0, 0)]), none, none, some (.invokevirtual 143, 121, 2, [(4182, 4), (0, 0)]), none, none, some (.goto 9, 32, 0, []), none, none, some (.aload_n 0, 0, 0, []), some (.ldc 60, 4293967295, 0, [(4062, 0)]), none, some (.invokevirtual 66, 116, 2, [(4063, 4), (0, 0)]), none, none, some (.ireturn, 0, 0, [])]
noncomputable def E_X5_mute : ts_E := fun z => if z = 134 then F_X5_isPerson else if z = 132 then F_X5_personAt else if z = 176 then F_X5_daysTo else if z = 121 then F_X5_orNone else if z = 116 then F_X5_finding else fun _ _ => none
noncomputable def F_X5_mute : List ts_V → ts_S → Option ts_A := ts_Fn E_X5_mute tb_X5_mute 2
set_option maxRecDepth 20000 in
theorem ok_X5_mute : ts_tbo 8 ts_mi [134, 132, 176, 121, 116] (ts_mi 178).1.cls (ts_mi 178).2.2.2.1 (ts_mi 178).2.1 0 tb_X5_mute = true := by decide +kernel
theorem con_X5_mute {X : ts_X} {l : Launch} (hJ : ts_J X l) : ts_Met X l (ts_mi 178) 8 F_X5_mute := ts_con (ts_mi 178) 8 (E := E_X5_mute) (mi := ts_mi) (cs := [134, 132, 176, 121, 116]) (tb := tb_X5_mute) (plainFor_of_name (by decide +kernel)) hJ.1 (List.forall_mem_cons.mpr ⟨⟨mw_134, 1, by decide, con_X5_isPerson hJ⟩, List.forall_mem_cons.mpr ⟨⟨mw_132, 0, by decide, con_X5_personAt hJ⟩, List.forall_mem_cons.mpr ⟨⟨mw_176, 7, by decide, con_X5_daysTo hJ⟩, List.forall_mem_cons.mpr ⟨⟨mw_121, 1, by decide, con_X5_orNone hJ⟩, List.forall_mem_cons.mpr ⟨⟨mw_116, 0, by decide, con_X5_finding hJ⟩, fun _ h => absurd h List.not_mem_nil⟩⟩⟩⟩⟩) ok_X5_mute
def tb_X5_isThought : List (Option ts_I) := [some (.iload_n 0, 0, 0, []), some (.iconst 0, 0, 0, []), some (.bipush 60, 60, 0, []), none, some (.invokestatic 70, 117, 3, [(4055, 9), (0, 0)]), none, none, some (.ireturn, 1, 0, [])]
noncomputable def E_X5_isThought : ts_E := fun z => if z = 117 then F_X5_within else fun _ _ => none
noncomputable def F_X5_isThought : List ts_V → ts_S → Option ts_A := ts_Fn E_X5_isThought tb_X5_isThought 1
set_option maxRecDepth 20000 in
theorem ok_X5_isThought : ts_tbo 1 ts_mi [117] (ts_mi 179).1.cls (ts_mi 179).2.2.2.1 (ts_mi 179).2.1 0 tb_X5_isThought = true := by decide +kernel
theorem con_X5_isThought {X : ts_X} {l : Launch} (hJ : ts_J X l) : ts_Met X l (ts_mi 179) 1 F_X5_isThought := ts_con (ts_mi 179) 1 (E := E_X5_isThought) (mi := ts_mi) (cs := [117]) (tb := tb_X5_isThought) (plainFor_of_name (by decide +kernel)) hJ.1 (List.forall_mem_cons.mpr ⟨⟨mw_117, 0, by decide, con_X5_within hJ⟩, fun _ h => absurd h List.not_mem_nil⟩) ok_X5_isThought
def tb_X5_leastLost : List (Option ts_I) := [some (.aload_n 0, 0, 0, []), some (.getfield 9, 4, 0, [(3224, 0)]), none, none, some (.iload_n 1, 1, 0, []), some (.iaload, 0, 0, []), some (.istore 5, 5, 0, []), none, some (.iconst 0, 0, 0, []), some (.istore 6, 6, 0, []), none, some (.ldc 209, 100000, 0, [(5063, 0)]), none, some (.istore 7, 7, 0, []), none, some (.iconst 0, 0, 0, []), some (.istore 8, 8, 0, []), none, some (.iload 8, 8, 0, []), none, some (.iload_n 3, 3, 0, []), some (.if_icmp .ge 43, 64, 0, []), none, none, some (.aload_n 0, 0, 0, []), some (.getfield 9, 4, 0, [(3224, 0)]), none, none, some (.iload_n 1, 1, 0, []), some (.iload_n 2, 2, 0, []), some (.iload 8, 8, 0, []), none, some (.iadd, 0, 0, []), some (.iastore, 0, 0, []), some (.aload_n 0, 0, 0, []), some (.iconst 4, 4, 0, []), some (.iload 4, 4, 0, []), none, some (.invokevirtual 199, 171, 3, [(5028, 4), (0, 0)]), none, none, some (.istore 9, 9, 0, []), none, some (.iload 9, 9, 0, []), none, some (.iload 7, 7, 0, []), none, some (.if_icmp .ge 11, 58, 0, []), none, none, some (.iload 8, 8, 0, []), none, some (.istore 6, 6, 0, []), none, some (.iload 9, 9, 0, []), none, some (.istore 7, 7, 0, []), none, some (.iinc 8 1, 8, 1, []), none, none, some (.goto (-43), 18, 0, [(9, 0)]), none, none, some (.aload_n 0, 0, 0, []), some (.getfield 9, 4, 0, [(3224, 0)]), none, none, some (.iload_n 1, 1, 0, []), some (.iload 5, 5, 0, []), none, some (.iastore, 0, 0, []), some (.iload 6, 6, 0, []), none, some (.ireturn, 0, 0, [])]
noncomputable def E_X5_leastLost : ts_E := fun z => if z = 171 then F_X5_behind else fun _ _ => none
noncomputable def F_X5_leastLost : List ts_V → ts_S → Option ts_A := ts_Fn E_X5_leastLost tb_X5_leastLost 10
set_option maxRecDepth 20000 in
theorem ok_X5_leastLost : ts_tbo 9 ts_mi [171] (ts_mi 180).1.cls (ts_mi 180).2.2.2.1 (ts_mi 180).2.1 0 tb_X5_leastLost = true := by decide +kernel
theorem con_X5_leastLost {X : ts_X} {l : Launch} (hJ : ts_J X l) : ts_Met X l (ts_mi 180) 9 F_X5_leastLost := ts_con (ts_mi 180) 9 (E := E_X5_leastLost) (mi := ts_mi) (cs := [171]) (tb := tb_X5_leastLost) (plainFor_of_name (by decide +kernel)) hJ.1 (List.forall_mem_cons.mpr ⟨⟨mw_171, 8, by decide, con_X5_behind hJ⟩, fun _ h => absurd h List.not_mem_nil⟩) ok_X5_leastLost
def tb_X5_sillFor : List (Option ts_I) := [some (.iload_n 1, 1, 0, []), some (.invokestatic 74, 125, 1, [(4052, 9), (0, 0)]), none, none, some (.ifCond .eq 37, 41, 0, []), none, none, some (.iload_n 2, 2, 0, []), some (.invokestatic 210, 179, 1, [(5056, 9), (0, 0)]), none, none, some (.ifCond .eq 30, 41, 0, []), none, none, some (.aload_n 0, 0, 0, []), some (.iconst 5, 5, 0, []), some (.iload_n 1, 1, 0, []), some (.iadd, 0, 0, []), some (.aload_n 0, 0, 0, []), some (.getfield 9, 4, 0, [(3224, 0)]), none, none, some (.iconst 5, 5, 0, []), some (.iload_n 1, 1, 0, []), some (.iadd, 0, 0, []), some (.iaload, 0, 0, []), some (.bipush 10, 10, 0, []), none, some (.idiv, 0, 0, []), some (.bipush 10, 10, 0, []), none, some (.imul, 0, 0, []), some (.bipush 8, 8, 0, []), none, some (.iload_n 2, 2, 0, []), some (.invokevirtual 213, 180, 5, [(5059, 4), (0, 0)]), none, none, some (.goto 9, 47, 0, []), none, none, some (.aload_n 0, 0, 0, []), some (.ldc 60, 4293967295, 0, [(4062, 0)]), none, some (.invokevirtual 66, 116, 2, [(4063, 4), (0, 0)]), none, none, some (.ireturn, 0, 0, [])]
noncomputable def E_X5_sillFor : ts_E := fun z => if z = 125 then F_X5_isPlace else if z = 179 then F_X5_isThought else if z = 180 then F_X5_leastLost else if z = 116 then F_X5_finding else fun _ _ => none
noncomputable def F_X5_sillFor : List ts_V → ts_S → Option ts_A := ts_Fn E_X5_sillFor tb_X5_sillFor 3
set_option maxRecDepth 20000 in
theorem ok_X5_sillFor : ts_tbo 10 ts_mi [125, 179, 180, 116] (ts_mi 181).1.cls (ts_mi 181).2.2.2.1 (ts_mi 181).2.1 0 tb_X5_sillFor = true := by decide +kernel
theorem con_X5_sillFor {X : ts_X} {l : Launch} (hJ : ts_J X l) : ts_Met X l (ts_mi 181) 10 F_X5_sillFor := ts_con (ts_mi 181) 10 (E := E_X5_sillFor) (mi := ts_mi) (cs := [125, 179, 180, 116]) (tb := tb_X5_sillFor) (plainFor_of_name (by decide +kernel)) hJ.1 (List.forall_mem_cons.mpr ⟨⟨mw_125, 1, by decide, con_X5_isPlace hJ⟩, List.forall_mem_cons.mpr ⟨⟨mw_179, 1, by decide, con_X5_isThought hJ⟩, List.forall_mem_cons.mpr ⟨⟨mw_180, 9, by decide, con_X5_leastLost hJ⟩, List.forall_mem_cons.mpr ⟨⟨mw_116, 0, by decide, con_X5_finding hJ⟩, fun _ h => absurd h List.not_mem_nil⟩⟩⟩⟩) ok_X5_sillFor
def tb_X5_kindFor : List (Option ts_I) := [some (.aload_n 0, 0, 0, []), some (.iload_n 1, 1, 0, []), some (.invokevirtual 122, 131, 2, [(4104, 4), (0, 0)]), none, none, some (.ifCond .eq 26, 31, 0, []), none, none, some (.iload_n 2, 2, 0, []), some (.invokestatic 210, 179, 1, [(5056, 9), (0, 0)]), none, none, some (.ifCond .eq 19, 31, 0, []), none, none, some (.aload_n 0, 0, 0, []), some (.iload_n 1, 1, 0, []), some (.iconst 0, 0, 0, []), some (.invokestatic 82, 129, 2, [(4083, 9), (0, 0)]), none, none, some (.iconst 0, 0, 0, []), some (.bipush 7, 7, 0, []), none, some (.iload_n 2, 2, 0, []), some (.invokevirtual 213, 180, 5, [(5059, 4), (0, 0)]), none, none, some (.goto 9, 37, 0, []), none, none, some (.aload_n 0, 0, 0, []), some (.ldc 60, 4293967295, 0, [(4062, 0)]), none, some (.invokevirtual 66, 116, 2, [(4063, 4), (0, 0)]), none, none, some (.ireturn, 0, 0, [])]
noncomputable def E_X5_kindFor : ts_E := fun z => if z = 131 then F_X5_isSill else if z = 179 then F_X5_isThought else if z = 129 then F_X5_sillAt else if z = 180 then F_X5_leastLost else if z = 116 then F_X5_finding else fun _ _ => none
noncomputable def F_X5_kindFor : List ts_V → ts_S → Option ts_A := ts_Fn E_X5_kindFor tb_X5_kindFor 3
set_option maxRecDepth 20000 in
theorem ok_X5_kindFor : ts_tbo 10 ts_mi [131, 179, 129, 180, 116] (ts_mi 182).1.cls (ts_mi 182).2.2.2.1 (ts_mi 182).2.1 0 tb_X5_kindFor = true := by decide +kernel
theorem con_X5_kindFor {X : ts_X} {l : Launch} (hJ : ts_J X l) : ts_Met X l (ts_mi 182) 10 F_X5_kindFor := ts_con (ts_mi 182) 10 (E := E_X5_kindFor) (mi := ts_mi) (cs := [131, 179, 129, 180, 116]) (tb := tb_X5_kindFor) (plainFor_of_name (by decide +kernel)) hJ.1 (List.forall_mem_cons.mpr ⟨⟨mw_131, 1, by decide, con_X5_isSill hJ⟩, List.forall_mem_cons.mpr ⟨⟨mw_179, 1, by decide, con_X5_isThought hJ⟩, List.forall_mem_cons.mpr ⟨⟨mw_129, 0, by decide, con_X5_sillAt hJ⟩, List.forall_mem_cons.mpr ⟨⟨mw_180, 9, by decide, con_X5_leastLost hJ⟩, List.forall_mem_cons.mpr ⟨⟨mw_116, 0, by decide, con_X5_finding hJ⟩, fun _ h => absurd h List.not_mem_nil⟩⟩⟩⟩⟩) ok_X5_kindFor
def tb_X5_wordFor : List (Option ts_I) := [some (.aload_n 0, 0, 0, []), some (.iload_n 1, 1, 0, []), some (.invokevirtual 134, 134, 2, [(4156, 4), (0, 0)]), none, none, some (.ifCond .eq 23, 28, 0, []), none, none, some (.aload_n 0, 0, 0, []), some (.iload_n 2, 2, 0, []), some (.invokevirtual 134, 134, 2, [(4156, 4), (0, 0)]), none, none, some (.ifCond .eq 15, 28, 0, []), none, none, some (.iload_n 1, 1, 0, []), some (.iload_n 2, 2, 0, []), some (.if_icmp .eq 10, 28, 0, []), none, none, some (.iload_n 3, 3, 0, []), some (.invokestatic 210, 179, 1, [(5056, 9), (0, 0)]), none, none, some (.ifCond .ne 10, 35, 0, []), none, none, some (.aload_n 0, 0, 0, []), some (.ldc 60, 4293967295, 0, [(4062, 0)]), none, some (.invokevirtual 66, 116, 2, [(4063, 4), (0, 0)]), none, none, some (.ireturn, 0, 0, []), some (.iload_n 1, 1, 0, []), some (.iconst 0, 0, 0, []), some (.invokestatic 85, 132, 2, [(4097, 9), (0, 0)]), none, none, some (.istore 4, 4, 0, []), none, some (.aload_n 0, 0, 0, []), some (.getfield 9, 4, 0, [(3224, 0)]), none, none, some (.iload 4, 4, 0, []), none, some (.iaload, 0, 0, []), some (.istore 5, 5, 0, []), none, some (.iconst (-1), 4294967295, 0, []), some (.istore 6, 6, 0, []), none, some (.iconst 0, 0, 0, []), some (.istore 7, 7, 0, []), none, some (.iload 7, 7, 0, []), none, some (.bipush 12, 12, 0, []), none, some (.if_icmp .ge 74, 135, 0, []), none, none, some (.iload 6, 6, 0, []), none, some (.ifCond .ge 69, 135, 0, []), none, none, some (.aload_n 0, 0, 0, []), some (.getfield 9, 4, 0, [(3224, 0)]), none, none, some (.iload 4, 4, 0, []), none, some (.iconst 1, 1, 0, []), some (.iload 7, 7, 0, []), none, some (.ishl, 0, 0, []), some (.iastore, 0, 0, []), some (.aload_n 0, 0, 0, []), some (.iload_n 2, 2, 0, []), some (.iload 7, 7, 0, []), none, some (.invokevirtual 202, 174, 3, [(5036, 4), (0, 0)]), none, none, some (.ifCond .ne 26, 113, 0, []), none, none, some (.aload_n 0, 0, 0, []), some (.iload_n 2, 2, 0, []), some (.iconst 0, 0, 0, []), some (.invokestatic 85, 132, 2, [(4097, 9), (0, 0)]), none, none, some (.iload_n 3, 3, 0, []), some (.invokevirtual 199, 171, 3, [(5028, 4), (0, 0)]), none, none, some (.iload 7, 7, 0, []), none, some (.ishr, 0, 0, []), some (.iconst 1, 1, 0, []), some (.iand, 0, 0, []), some (.iconst 1, 1, 0, []), some (.if_icmp .ne 7, 113, 0, []), none, none, some (.iconst 1, 1, 0, []), some (.goto 4, 114, 0, []), none, none, some (.iconst 0, 0, 0, []), some (.istore 8, 8, 0, []), none, some (.iload 8, 8, 0, []), none, some (.ifCond .eq 8, 126, 0, []), none, none, some (.iload 7, 7, 0, []), none, some (.goto 4, 127, 0, []), none, none, some (.iconst (-1), 4294967295, 0, []), some (.istore 6, 6, 0, []), none, some (.iinc 7 1, 7, 1, []), none, none, some (.goto (-75), 57, 0, [(8, 0)]), none, none, some (.aload_n 0, 0, 0, []), some (.getfield 9, 4, 0, [(3224, 0)]), none, none, some (.iload 4, 4, 0, []), none, some (.iload 5, 5, 0, []), none, some (.iastore, 0, 0, []), some (.aload_n 0, 0, 0, []), some (.iload 6, 6, 0, []), none, some (.invokevirtual 143, 121, 2, [(4182, 4), (0, 0)]), none, none, some (.ireturn, 0, 0, [])]
noncomputable def E_X5_wordFor : ts_E := fun z => if z = 134 then F_X5_isPerson else if z = 179 then F_X5_isThought else if z = 116 then F_X5_finding else if z = 132 then F_X5_personAt else if z = 174 then F_X5_hasWord else if z = 171 then F_X5_behind else if z = 121 then F_X5_orNone else fun _ _ => none
noncomputable def F_X5_wordFor : List ts_V → ts_S → Option ts_A := ts_Fn E_X5_wordFor tb_X5_wordFor 9
set_option maxRecDepth 20000 in
theorem ok_X5_wordFor : ts_tbo 9 ts_mi [134, 179, 116, 132, 174, 171, 121] (ts_mi 183).1.cls (ts_mi 183).2.2.2.1 (ts_mi 183).2.1 0 tb_X5_wordFor = true := by decide +kernel
theorem con_X5_wordFor {X : ts_X} {l : Launch} (hJ : ts_J X l) : ts_Met X l (ts_mi 183) 9 F_X5_wordFor := ts_con (ts_mi 183) 9 (E := E_X5_wordFor) (mi := ts_mi) (cs := [134, 179, 116, 132, 174, 171, 121]) (tb := tb_X5_wordFor) (plainFor_of_name (by decide +kernel)) hJ.1 (List.forall_mem_cons.mpr ⟨⟨mw_134, 1, by decide, con_X5_isPerson hJ⟩, List.forall_mem_cons.mpr ⟨⟨mw_179, 1, by decide, con_X5_isThought hJ⟩, List.forall_mem_cons.mpr ⟨⟨mw_116, 0, by decide, con_X5_finding hJ⟩, List.forall_mem_cons.mpr ⟨⟨mw_132, 0, by decide, con_X5_personAt hJ⟩, List.forall_mem_cons.mpr ⟨⟨mw_174, 2, by decide, con_X5_hasWord hJ⟩, List.forall_mem_cons.mpr ⟨⟨mw_171, 8, by decide, con_X5_behind hJ⟩, List.forall_mem_cons.mpr ⟨⟨mw_121, 1, by decide, con_X5_orNone hJ⟩, fun _ h => absurd h List.not_mem_nil⟩⟩⟩⟩⟩⟩⟩) ok_X5_wordFor
def tb_X5_staysAway : List (Option ts_I) := [some (.aload_n 0, 0, 0, []), some (.getfield 9, 4, 0, [(3224, 0)]), none, none, some (.aload_n 0, 0, 0, []), some (.getfield 16, 4, 2, [(3226, 0)]), none, none, some (.invokestatic 61, 119, 2, [(5017, 9), (1, 0)]), none, none, some (.iconst 0, 0, 0, []), some (.istore 5, 5, 0, []), none, some (.iload 5, 5, 0, []), none, some (.aload_n 0, 0, 0, []), some (.getfield 9, 4, 0, [(3224, 0)]), none, none, some (.iconst 1, 1, 0, []), some (.iaload, 0, 0, []), some (.if_icmp .ge 31, 53, 0, []), none, none, some (.iload_n 1, 1, 0, []), some (.iload 5, 5, 0, []), none, some (.ishr, 0, 0, []), some (.iconst 1, 1, 0, []), some (.iand, 0, 0, []), some (.iconst 1, 1, 0, []), some (.if_icmp .ne 15, 47, 0, []), none, none, some (.aload_n 0, 0, 0, []), some (.getfield 9, 4, 0, [(3224, 0)]), none, none, some (.iload 5, 5, 0, []), none, some (.iconst 2, 2, 0, []), some (.invokestatic 82, 129, 2, [(4083, 9), (0, 0)]), none, none, some (.iconst 1, 1, 0, []), some (.iastore, 0, 0, []), some (.iinc 5 1, 5, 1, []), none, none, some (.goto (-36), 14, 0, []), none, none, some (.aload_n 0, 0, 0, []), some (.iload 4, 4, 0, []), none, some (.invokevirtual 177, 163, 2, [(4217, 4), (1, 0)]), none, none, some (.aload_n 0, 0, 0, []), some (.iload_n 2, 2, 0, []), some (.iload_n 3, 3, 0, []), some (.invokevirtual 202, 174, 3, [(5036, 4), (0, 0)]), none, none, some (.ifCond .ne 7, 72, 0, []), none, none, some (.iconst 1, 1, 0, []), some (.goto 4, 73, 0, []), none, none, some (.iconst 0, 0, 0, []), some (.istore 5, 5, 0, []), none, some (.aload_n 0, 0, 0, []), some (.getfield 16, 4, 2, [(3226, 0)]), none, none, some (.aload_n 0, 0, 0, []), some (.getfield 9, 4, 0, [(3224, 0)]), none, none, some (.invokestatic 61, 119, 2, [(5017, 9), (1, 0)]), none, none, some (.iload 5, 5, 0, []), none, some (.ireturn, 1, 0, [])]
noncomputable def E_X5_staysAway : ts_E := fun z => if z = 119 then F_X5_copyRow else if z = 129 then F_X5_sillAt else if z = 163 then F_X5_daysGo else if z = 174 then F_X5_hasWord else fun _ _ => none
noncomputable def F_X5_staysAway : List ts_V → ts_S → Option ts_A := ts_Fn E_X5_staysAway tb_X5_staysAway 6
set_option maxRecDepth 20000 in
theorem ok_X5_staysAway : ts_tbo 8 ts_mi [119, 129, 163, 174] (ts_mi 184).1.cls (ts_mi 184).2.2.2.1 (ts_mi 184).2.1 0 tb_X5_staysAway = true := by decide +kernel
theorem con_X5_staysAway {X : ts_X} {l : Launch} (hJ : ts_J X l) : ts_Met X l (ts_mi 184) 8 F_X5_staysAway := ts_con (ts_mi 184) 8 (E := E_X5_staysAway) (mi := ts_mi) (cs := [119, 129, 163, 174]) (tb := tb_X5_staysAway) (plainFor_of_name (by decide +kernel)) hJ.1 (List.forall_mem_cons.mpr ⟨⟨mw_119, 0, by decide, con_X5_copyRow hJ⟩, List.forall_mem_cons.mpr ⟨⟨mw_129, 0, by decide, con_X5_sillAt hJ⟩, List.forall_mem_cons.mpr ⟨⟨mw_163, 7, by decide, con_X5_daysGo hJ⟩, List.forall_mem_cons.mpr ⟨⟨mw_174, 2, by decide, con_X5_hasWord hJ⟩, fun _ h => absurd h List.not_mem_nil⟩⟩⟩⟩) ok_X5_staysAway
def tb_X5_mend : List (Option ts_I) := [some (.aload_n 0, 0, 0, []), some (.iload_n 1, 1, 0, []), some (.invokevirtual 134, 134, 2, [(4156, 4), (0, 0)]), none, none, some (.ifCond .eq 20, 25, 0, []), none, none, some (.iload_n 2, 2, 0, []), some (.invokestatic 128, 124, 1, [(4145, 9), (0, 0)]), none, none, some (.ifCond .eq 13, 25, 0, []), none, none, some (.iload_n 3, 3, 0, []), some (.iconst 0, 0, 0, []), some (.bipush 20, 20, 0, []), none, some (.invokestatic 70, 117, 3, [(4055, 9), (0, 0)]), none, none, some (.ifCond .ne 10, 32, 0, []), none, none, some (.aload_n 0, 0, 0, []), some (.ldc 60, 4293967295, 0, [(4062, 0)]), none, some (.invokevirtual 66, 116, 2, [(4063, 4), (0, 0)]), none, none, some (.ireturn, 0, 0, []), some (.iconst (-1), 4294967295, 0, []), some (.istore 4, 4, 0, []), none, some (.iconst 1, 1, 0, []), some (.aload_n 0, 0, 0, []), some (.getfield 9, 4, 0, [(3224, 0)]), none, none, some (.iconst 1, 1, 0, []), some (.iaload, 0, 0, []), some (.ishl, 0, 0, []), some (.iconst 1, 1, 0, []), some (.isub, 0, 0, []), some (.istore 5, 5, 0, []), none, some (.iload 5, 5, 0, []), none, some (.ifCond .lt 48, 97, 0, []), none, none, some (.iload 4, 4, 0, []), none, some (.ifCond .lt 16, 70, 0, []), none, none, some (.iload 5, 5, 0, []), none, some (.invokestatic 217, 122, 1, [(5076, 9), (0, 0)]), none, none, some (.iload 4, 4, 0, []), none, some (.invokestatic 217, 122, 1, [(5076, 9), (0, 0)]), none, none, some (.if_icmp .gt 20, 87, 0, []), none, none, some (.aload_n 0, 0, 0, []), some (.iload 5, 5, 0, []), none, some (.iload_n 1, 1, 0, []), some (.iload_n 2, 2, 0, []), some (.iload_n 3, 3, 0, []), some (.invokevirtual 220, 184, 5, [(5079, 4), (0, 0)]), none, none, some (.ifCond .eq 8, 87, 0, []), none, none, some (.iload 5, 5, 0, []), none, some (.goto 5, 89, 0, []), none, none, some (.iload 4, 4, 0, []), none, some (.istore 4, 4, 0, []), none, some (.iinc 5 (-1), 5, 4294967295, []), none, none, some (.goto (-47), 47, 0, []), none, none, some (.aload_n 0, 0, 0, []), some (.iload 4, 4, 0, []), none, some (.invokevirtual 143, 121, 2, [(4182, 4), (0, 0)]), none, none, some (.ireturn, 0, 0, [])]
noncomputable def E_X5_mend : ts_E := fun z => if z = 134 then F_X5_isPerson else if z = 124 then F_X5_isWordNumber else if z = 117 then F_X5_within else if z = 116 then F_X5_finding else if z = 122 then F_X5_bits else if z = 184 then F_X5_staysAway else if z = 121 then F_X5_orNone else fun _ _ => none
noncomputable def F_X5_mend : List ts_V → ts_S → Option ts_A := ts_Fn E_X5_mend tb_X5_mend 6
set_option maxRecDepth 20000 in
theorem ok_X5_mend : ts_tbo 9 ts_mi [134, 124, 117, 116, 122, 184, 121] (ts_mi 185).1.cls (ts_mi 185).2.2.2.1 (ts_mi 185).2.1 0 tb_X5_mend = true := by decide +kernel
theorem con_X5_mend {X : ts_X} {l : Launch} (hJ : ts_J X l) : ts_Met X l (ts_mi 185) 9 F_X5_mend := ts_con (ts_mi 185) 9 (E := E_X5_mend) (mi := ts_mi) (cs := [134, 124, 117, 116, 122, 184, 121]) (tb := tb_X5_mend) (plainFor_of_name (by decide +kernel)) hJ.1 (List.forall_mem_cons.mpr ⟨⟨mw_134, 1, by decide, con_X5_isPerson hJ⟩, List.forall_mem_cons.mpr ⟨⟨mw_124, 1, by decide, con_X5_isWordNumber hJ⟩, List.forall_mem_cons.mpr ⟨⟨mw_117, 0, by decide, con_X5_within hJ⟩, List.forall_mem_cons.mpr ⟨⟨mw_116, 0, by decide, con_X5_finding hJ⟩, List.forall_mem_cons.mpr ⟨⟨mw_122, 0, by decide, con_X5_bits hJ⟩, List.forall_mem_cons.mpr ⟨⟨mw_184, 8, by decide, con_X5_staysAway hJ⟩, List.forall_mem_cons.mpr ⟨⟨mw_121, 1, by decide, con_X5_orNone hJ⟩, fun _ h => absurd h List.not_mem_nil⟩⟩⟩⟩⟩⟩⟩) ok_X5_mend
def tb_X5_seek : List (Option ts_I) := [some (.aload_n 0, 0, 0, []), some (.iload_n 1, 1, 0, []), some (.invokevirtual 134, 134, 2, [(4156, 4), (0, 0)]), none, none, some (.ifCond .eq 10, 15, 0, []), none, none, some (.iload_n 2, 2, 0, []), some (.invokestatic 128, 124, 1, [(4145, 9), (0, 0)]), none, none, some (.ifCond .ne 10, 22, 0, []), none, none, some (.aload_n 0, 0, 0, []), some (.ldc 60, 4293967295, 0, [(4062, 0)]), none, some (.invokevirtual 66, 116, 2, [(4063, 4), (0, 0)]), none, none, some (.ireturn, 0, 0, []), some (.aload_n 0, 0, 0, []), some (.iload_n 1, 1, 0, []), some (.iconst 1, 1, 0, []), some (.invokevirtual 137, 133, 3, [(4160, 4), (0, 0)]), none, none, some (.ifCond .ge 12, 40, 0, []), none, none, some (.aload_n 0, 0, 0, []), some (.iload_n 1, 1, 0, []), some (.iload_n 2, 2, 0, []), some (.invokevirtual 202, 174, 3, [(5036, 4), (0, 0)]), none, none, some (.ifCond .eq 10, 47, 0, []), none, none, some (.aload_n 0, 0, 0, []), some (.ldc 169, 4293967291, 0, [(4212, 0)]), none, some (.invokevirtual 66, 116, 2, [(4063, 4), (0, 0)]), none, none, some (.ireturn, 0, 0, []), some (.aload_n 0, 0, 0, []), some (.getfield 9, 4, 0, [(3224, 0)]), none, none, some (.aload_n 0, 0, 0, []), some (.getfield 16, 4, 2, [(3226, 0)]), none, none, some (.invokestatic 61, 119, 2, [(5017, 9), (1, 0)]), none, none, some (.iconst (-1), 4294967295, 0, []), some (.istore_n 3, 3, 0, []), some (.iconst 0, 0, 0, []), some (.istore 4, 4, 0, []), none, some (.iload 4, 4, 0, []), none, some (.aload_n 0, 0, 0, []), some (.getfield 9, 4, 0, [(3224, 0)]), none, none, some (.iconst 1, 1, 0, []), some (.iaload, 0, 0, []), some (.if_icmp .ge 55, 126, 0, []), none, none, some (.iload_n 3, 3, 0, []), some (.ifCond .ge 51, 126, 0, []), none, none, some (.aload_n 0, 0, 0, []), some (.iload_n 1, 1, 0, []), some (.iload 4, 4, 0, []), none, some (.invokevirtual 162, 157, 3, [(4190, 4), (0, 0)]), none, none, some (.ifCond .eq 35, 120, 0, []), none, none, some (.aload_n 0, 0, 0, []), some (.iload_n 1, 1, 0, []), some (.iload 4, 4, 0, []), none, some (.invokevirtual 166, 160, 3, [(4194, 4), (0, 0)]), none, none, some (.pop, 0, 0, []), some (.aload_n 0, 0, 0, []), some (.iload_n 1, 1, 0, []), some (.iload 4, 4, 0, []), none, some (.invokevirtual 166, 160, 3, [(4194, 4), (0, 0)]), none, none, some (.pop, 0, 0, []), some (.aload_n 0, 0, 0, []), some (.iload_n 1, 1, 0, []), some (.iload_n 2, 2, 0, []), some (.invokevirtual 202, 174, 3, [(5036, 4), (0, 0)]), none, none, some (.ifCond .eq 8, 118, 0, []), none, none, some (.iload 4, 4, 0, []), none, some (.goto 4, 119, 0, []), none, none, some (.iconst (-1), 4294967295, 0, []), some (.istore_n 3, 3, 0, []), some (.iinc 4 1, 4, 1, []), none, none, some (.goto (-60), 63, 0, []), none, none, some (.aload_n 0, 0, 0, []), some (.aload_n 0, 0, 0, []), some (.iload_n 3, 3, 0, []), some (.invokevirtual 196, 120, 2, [(5020, 4), (0, 0)]), none, none, some (.invokevirtual 143, 121, 2, [(4182, 4), (0, 0)]), none, none, some (.ireturn, 0, 0, [])]
noncomputable def E_X5_seek : ts_E := fun z => if z = 134 then F_X5_isPerson else if z = 124 then F_X5_isWordNumber else if z = 116 then F_X5_finding else if z = 133 then F_X5_personIs else if z = 174 then F_X5_hasWord else if z = 119 then F_X5_copyRow else if z = 157 then F_X5_mayCross else if z = 160 then F_X5_crosses else if z = 120 then F_X5_putBack else if z = 121 then F_X5_orNone else fun _ _ => none
noncomputable def F_X5_seek : List ts_V → ts_S → Option ts_A := ts_Fn E_X5_seek tb_X5_seek 5
set_option maxRecDepth 20000 in
theorem ok_X5_seek : ts_tbo 6 ts_mi [134, 124, 116, 133, 174, 119, 157, 160, 120, 121] (ts_mi 186).1.cls (ts_mi 186).2.2.2.1 (ts_mi 186).2.1 0 tb_X5_seek = true := by decide +kernel
theorem con_X5_seek {X : ts_X} {l : Launch} (hJ : ts_J X l) : ts_Met X l (ts_mi 186) 6 F_X5_seek := ts_con (ts_mi 186) 6 (E := E_X5_seek) (mi := ts_mi) (cs := [134, 124, 116, 133, 174, 119, 157, 160, 120, 121]) (tb := tb_X5_seek) (plainFor_of_name (by decide +kernel)) hJ.1 (List.forall_mem_cons.mpr ⟨⟨mw_134, 1, by decide, con_X5_isPerson hJ⟩, List.forall_mem_cons.mpr ⟨⟨mw_124, 1, by decide, con_X5_isWordNumber hJ⟩, List.forall_mem_cons.mpr ⟨⟨mw_116, 0, by decide, con_X5_finding hJ⟩, List.forall_mem_cons.mpr ⟨⟨mw_133, 1, by decide, con_X5_personIs hJ⟩, List.forall_mem_cons.mpr ⟨⟨mw_174, 2, by decide, con_X5_hasWord hJ⟩, List.forall_mem_cons.mpr ⟨⟨mw_119, 0, by decide, con_X5_copyRow hJ⟩, List.forall_mem_cons.mpr ⟨⟨mw_157, 2, by decide, con_X5_mayCross hJ⟩, List.forall_mem_cons.mpr ⟨⟨mw_160, 5, by decide, con_X5_crosses hJ⟩, List.forall_mem_cons.mpr ⟨⟨mw_120, 1, by decide, con_X5_putBack hJ⟩, List.forall_mem_cons.mpr ⟨⟨mw_121, 1, by decide, con_X5_orNone hJ⟩, fun _ h => absurd h List.not_mem_nil⟩⟩⟩⟩⟩⟩⟩⟩⟩⟩) ok_X5_seek
def tb_X5_isSheet : List (Option ts_I) := [some (.iload_n 0, 0, 0, []), some (.iconst 0, 0, 0, []), some (.iconst 3, 3, 0, []), some (.invokestatic 70, 117, 3, [(4055, 9), (0, 0)]), none, none, some (.ireturn, 1, 0, [])]
noncomputable def E_X5_isSheet : ts_E := fun z => if z = 117 then F_X5_within else fun _ _ => none
noncomputable def F_X5_isSheet : List ts_V → ts_S → Option ts_A := ts_Fn E_X5_isSheet tb_X5_isSheet 1
set_option maxRecDepth 20000 in
theorem ok_X5_isSheet : ts_tbo 1 ts_mi [117] (ts_mi 187).1.cls (ts_mi 187).2.2.2.1 (ts_mi 187).2.1 0 tb_X5_isSheet = true := by decide +kernel
theorem con_X5_isSheet {X : ts_X} {l : Launch} (hJ : ts_J X l) : ts_Met X l (ts_mi 187) 1 F_X5_isSheet := ts_con (ts_mi 187) 1 (E := E_X5_isSheet) (mi := ts_mi) (cs := [117]) (tb := tb_X5_isSheet) (plainFor_of_name (by decide +kernel)) hJ.1 (List.forall_mem_cons.mpr ⟨⟨mw_117, 0, by decide, con_X5_within hJ⟩, fun _ h => absurd h List.not_mem_nil⟩) ok_X5_isSheet
def tb_X5_lacks : List (Option ts_I) := [some (.iload_n 1, 1, 0, []), some (.invokestatic 224, 187, 1, [(5095, 9), (0, 0)]), none, none, some (.ifCond .ne 8, 12, 0, []), none, none, some (.ldc 60, 4293967295, 0, [(4062, 0)]), none, some (.goto 27, 36, 0, []), none, none, some (.aload_n 0, 0, 0, []), some (.getfield 48, 4, 17, [(4001, 0)]), none, none, some (.iload_n 1, 1, 0, []), some (.iaload, 0, 0, []), some (.ifCond .ne 8, 26, 0, []), none, none, some (.ldc 227, 4293967290, 0, [(5098, 0)]), none, some (.goto 13, 36, 0, []), none, none, some (.iload_n 2, 2, 0, []), some (.ifCond .eq 7, 34, 0, []), none, none, some (.iconst 0, 0, 0, []), some (.goto 5, 36, 0, []), none, none, some (.ldc 60, 4293967295, 0, [(4062, 0)]), none, some (.ireturn, 0, 0, [])]
noncomputable def E_X5_lacks : ts_E := fun z => if z = 187 then F_X5_isSheet else fun _ _ => none
noncomputable def F_X5_lacks : List ts_V → ts_S → Option ts_A := ts_Fn E_X5_lacks tb_X5_lacks 3
set_option maxRecDepth 20000 in
theorem ok_X5_lacks : ts_tbo 2 ts_mi [187] (ts_mi 188).1.cls (ts_mi 188).2.2.2.1 (ts_mi 188).2.1 0 tb_X5_lacks = true := by decide +kernel
theorem con_X5_lacks {X : ts_X} {l : Launch} (hJ : ts_J X l) : ts_Met X l (ts_mi 188) 2 F_X5_lacks := ts_con (ts_mi 188) 2 (E := E_X5_lacks) (mi := ts_mi) (cs := [187]) (tb := tb_X5_lacks) (plainFor_of_name (by decide +kernel)) hJ.1 (List.forall_mem_cons.mpr ⟨⟨mw_187, 1, by decide, con_X5_isSheet hJ⟩, fun _ h => absurd h List.not_mem_nil⟩) ok_X5_lacks
def tb_X5_isSo : List (Option ts_I) := [some (.aload_n 0, 0, 0, []), some (.getfield 9, 4, 0, [(3224, 0)]), none, none, some (.aload_n 0, 0, 0, []), some (.getfield 16, 4, 2, [(3226, 0)]), none, none, some (.invokestatic 61, 119, 2, [(5017, 9), (1, 0)]), none, none, some (.iconst 1, 1, 0, []), some (.istore_n 3, 3, 0, []), some (.iconst 0, 0, 0, []), some (.istore 4, 4, 0, []), none, some (.iload 4, 4, 0, []), none, some (.aload_n 0, 0, 0, []), some (.getfield 51, 4, 18, [(4002, 0)]), none, none, some (.iload_n 1, 1, 0, []), some (.iaload, 0, 0, []), some (.if_icmp .ge 54, 78, 0, []), none, none, some (.iload_n 3, 3, 0, []), some (.ifCond .eq 50, 78, 0, []), none, none, some (.aload_n 0, 0, 0, []), some (.getfield 54, 4, 19, [(4003, 0)]), none, none, some (.bipush 40, 40, 0, []), none, some (.iload_n 1, 1, 0, []), some (.imul, 0, 0, []), some (.iload 4, 4, 0, []), none, some (.iadd, 0, 0, []), some (.iaload, 0, 0, []), some (.istore 5, 5, 0, []), none, some (.iload 5, 5, 0, []), none, some (.iconst (-1), 4294967295, 0, []), some (.if_icmp .eq 14, 62, 0, []), none, none, some (.iload 5, 5, 0, []), none, some (.aload_n 0, 0, 0, []), some (.getfield 9, 4, 0, [(3224, 0)]), none, none, some (.iload_n 2, 2, 0, []), some (.iaload, 0, 0, []), some (.if_icmp .ne 7, 66, 0, []), none, none, some (.iconst 1, 1, 0, []), some (.goto 4, 67, 0, []), none, none, some (.iconst 0, 0, 0, []), some (.istore_n 3, 3, 0, []), some (.aload_n 0, 0, 0, []), some (.invokevirtual 174, 162, 1, [(4221, 4), (1, 0)]), none, none, some (.iinc 4 1, 4, 1, []), none, none, some (.goto (-59), 16, 0, [(5, 0)]), none, none, some (.aload_n 0, 0, 0, []), some (.getfield 16, 4, 2, [(3226, 0)]), none, none, some (.aload_n 0, 0, 0, []), some (.getfield 9, 4, 0, [(3224, 0)]), none, none, some (.invokestatic 61, 119, 2, [(5017, 9), (1, 0)]), none, none, some (.iload_n 3, 3, 0, []), some (.ireturn, 1, 0, [])]
noncomputable def E_X5_isSo : ts_E := fun z => if z = 119 then F_X5_copyRow else if z = 162 then F_X5_day else fun _ _ => none
noncomputable def F_X5_isSo : List ts_V → ts_S → Option ts_A := ts_Fn E_X5_isSo tb_X5_isSo 6
set_option maxRecDepth 20000 in
theorem ok_X5_isSo : ts_tbo 7 ts_mi [119, 162] (ts_mi 189).1.cls (ts_mi 189).2.2.2.1 (ts_mi 189).2.1 0 tb_X5_isSo = true := by decide +kernel
theorem con_X5_isSo {X : ts_X} {l : Launch} (hJ : ts_J X l) : ts_Met X l (ts_mi 189) 7 F_X5_isSo := ts_con (ts_mi 189) 7 (E := E_X5_isSo) (mi := ts_mi) (cs := [119, 162]) (tb := tb_X5_isSo) (plainFor_of_name (by decide +kernel)) hJ.1 (List.forall_mem_cons.mpr ⟨⟨mw_119, 0, by decide, con_X5_copyRow hJ⟩, List.forall_mem_cons.mpr ⟨⟨mw_162, 6, by decide, con_X5_day hJ⟩, fun _ h => absurd h List.not_mem_nil⟩⟩) ok_X5_isSo
def tb_X5_fits : List (Option ts_I) := [some (.aload_n 0, 0, 0, []), some (.iload_n 1, 1, 0, []), some (.aload_n 0, 0, 0, []), some (.iload_n 2, 2, 0, []), some (.invokevirtual 134, 134, 2, [(4156, 4), (0, 0)]), none, none, some (.invokevirtual 228, 188, 3, [(5091, 4), (0, 0)]), none, none, some (.istore_n 3, 3, 0, []), some (.iload_n 3, 3, 0, []), some (.ifCond .eq 9, 21, 0, []), none, none, some (.aload_n 0, 0, 0, []), some (.iload_n 3, 3, 0, []), some (.invokevirtual 66, 116, 2, [(4063, 4), (0, 0)]), none, none, some (.ireturn, 0, 0, []), some (.aload_n 0, 0, 0, []), some (.invokevirtual 170, 128, 1, [(4225, 4), (0, 0)]), none, none, some (.istore 4, 4, 0, []), none, some (.aload_n 0, 0, 0, []), some (.getfield 9, 4, 0, [(3224, 0)]), none, none, some (.iload 4, 4, 0, []), none, some (.iaload, 0, 0, []), some (.istore 5, 5, 0, []), none, some (.iconst 0, 0, 0, []), some (.istore 6, 6, 0, []), none, some (.iconst 0, 0, 0, []), some (.istore 7, 7, 0, []), none, some (.iload 7, 7, 0, []), none, some (.bipush 48, 48, 0, []), none, some (.if_icmp .ge 53, 99, 0, []), none, none, some (.aload_n 0, 0, 0, []), some (.getfield 9, 4, 0, [(3224, 0)]), none, none, some (.iload 4, 4, 0, []), none, some (.iload 7, 7, 0, []), none, some (.bipush 8, 8, 0, []), none, some (.idiv, 0, 0, []), some (.bipush 10, 10, 0, []), none, some (.imul, 0, 0, []), some (.iload 7, 7, 0, []), none, some (.bipush 8, 8, 0, []), none, some (.irem, 0, 0, []), some (.iadd, 0, 0, []), some (.iastore, 0, 0, []), some (.iload 6, 6, 0, []), none, some (.aload_n 0, 0, 0, []), some (.iload_n 1, 1, 0, []), some (.iload_n 2, 2, 0, []), some (.iconst 0, 0, 0, []), some (.invokestatic 85, 132, 2, [(4097, 9), (0, 0)]), none, none, some (.invokevirtual 232, 189, 3, [(5099, 4), (0, 0)]), none, none, some (.ifCond .eq 7, 89, 0, []), none, none, some (.iconst 1, 1, 0, []), some (.goto 4, 90, 0, []), none, none, some (.iconst 0, 0, 0, []), some (.iadd, 0, 0, []), some (.istore 6, 6, 0, []), none, some (.iinc 7 1, 7, 1, []), none, none, some (.goto (-54), 42, 0, []), none, none, some (.aload_n 0, 0, 0, []), some (.getfield 9, 4, 0, [(3224, 0)]), none, none, some (.iload 4, 4, 0, []), none, some (.iload 5, 5, 0, []), none, some (.iastore, 0, 0, []), some (.iload 6, 6, 0, []), none, some (.ireturn, 0, 0, [])]
noncomputable def E_X5_fits : ts_E := fun z => if z = 134 then F_X5_isPerson else if z = 188 then F_X5_lacks else if z = 116 then F_X5_finding else if z = 128 then F_X5_placeNow else if z = 132 then F_X5_personAt else if z = 189 then F_X5_isSo else fun _ _ => none
noncomputable def F_X5_fits : List ts_V → ts_S → Option ts_A := ts_Fn E_X5_fits tb_X5_fits 8
set_option maxRecDepth 20000 in
theorem ok_X5_fits : ts_tbo 8 ts_mi [134, 188, 116, 128, 132, 189] (ts_mi 190).1.cls (ts_mi 190).2.2.2.1 (ts_mi 190).2.1 0 tb_X5_fits = true := by decide +kernel
theorem con_X5_fits {X : ts_X} {l : Launch} (hJ : ts_J X l) : ts_Met X l (ts_mi 190) 8 F_X5_fits := ts_con (ts_mi 190) 8 (E := E_X5_fits) (mi := ts_mi) (cs := [134, 188, 116, 128, 132, 189]) (tb := tb_X5_fits) (plainFor_of_name (by decide +kernel)) hJ.1 (List.forall_mem_cons.mpr ⟨⟨mw_134, 1, by decide, con_X5_isPerson hJ⟩, List.forall_mem_cons.mpr ⟨⟨mw_188, 2, by decide, con_X5_lacks hJ⟩, List.forall_mem_cons.mpr ⟨⟨mw_116, 0, by decide, con_X5_finding hJ⟩, List.forall_mem_cons.mpr ⟨⟨mw_128, 0, by decide, con_X5_placeNow hJ⟩, List.forall_mem_cons.mpr ⟨⟨mw_132, 0, by decide, con_X5_personAt hJ⟩, List.forall_mem_cons.mpr ⟨⟨mw_189, 7, by decide, con_X5_isSo hJ⟩, fun _ h => absurd h List.not_mem_nil⟩⟩⟩⟩⟩⟩) ok_X5_fits
def tb_X5_kinds : List (Option ts_I) := [some (.aload_n 0, 0, 0, []), some (.iload_n 1, 1, 0, []), some (.aload_n 0, 0, 0, []), some (.iload_n 2, 2, 0, []), some (.invokevirtual 122, 131, 2, [(4104, 4), (0, 0)]), none, none, some (.invokevirtual 228, 188, 3, [(5091, 4), (0, 0)]), none, none, some (.istore_n 3, 3, 0, []), some (.iload_n 3, 3, 0, []), some (.ifCond .eq 9, 21, 0, []), none, none, some (.aload_n 0, 0, 0, []), some (.iload_n 3, 3, 0, []), some (.invokevirtual 66, 116, 2, [(4063, 4), (0, 0)]), none, none, some (.ireturn, 0, 0, []), some (.iload_n 2, 2, 0, []), some (.iconst 0, 0, 0, []), some (.invokestatic 82, 129, 2, [(4083, 9), (0, 0)]), none, none, some (.istore 4, 4, 0, []), none, some (.aload_n 0, 0, 0, []), some (.getfield 9, 4, 0, [(3224, 0)]), none, none, some (.iload 4, 4, 0, []), none, some (.iaload, 0, 0, []), some (.istore 5, 5, 0, []), none, some (.iconst 0, 0, 0, []), some (.istore 6, 6, 0, []), none, some (.iconst 0, 0, 0, []), some (.istore 7, 7, 0, []), none, some (.iload 7, 7, 0, []), none, some (.bipush 6, 6, 0, []), none, some (.if_icmp .gt 44, 91, 0, []), none, none, some (.aload_n 0, 0, 0, []), some (.getfield 9, 4, 0, [(3224, 0)]), none, none, some (.iload 4, 4, 0, []), none, some (.iload 7, 7, 0, []), none, some (.iastore, 0, 0, []), some (.iload 6, 6, 0, []), none, some (.aload_n 0, 0, 0, []), some (.iload_n 1, 1, 0, []), some (.iload_n 2, 2, 0, []), some (.iconst 3, 3, 0, []), some (.invokestatic 82, 129, 2, [(4083, 9), (0, 0)]), none, none, some (.invokevirtual 232, 189, 3, [(5099, 4), (0, 0)]), none, none, some (.ifCond .eq 10, 81, 0, []), none, none, some (.iconst 1, 1, 0, []), some (.iload 7, 7, 0, []), none, some (.ishl, 0, 0, []), some (.goto 4, 82, 0, []), none, none, some (.iconst 0, 0, 0, []), some (.ior, 0, 0, []), some (.istore 6, 6, 0, []), none, some (.iinc 7 1, 7, 1, []), none, none, some (.goto (-45), 43, 0, []), none, none, some (.aload_n 0, 0, 0, []), some (.getfield 9, 4, 0, [(3224, 0)]), none, none, some (.iload 4, 4, 0, []), none, some (.iload 5, 5, 0, []), none, some (.iastore, 0, 0, []), some (.iload 6, 6, 0, []), none, some (.ireturn, 0, 0, [])]
noncomputable def E_X5_kinds : ts_E := fun z => if z = 131 then F_X5_isSill else if z = 188 then F_X5_lacks else if z = 116 then F_X5_finding else if z = 129 then F_X5_sillAt else if z = 189 then F_X5_isSo else fun _ _ => none
noncomputable def F_X5_kinds : List ts_V → ts_S → Option ts_A := ts_Fn E_X5_kinds tb_X5_kinds 8
set_option maxRecDepth 20000 in
theorem ok_X5_kinds : ts_tbo 8 ts_mi [131, 188, 116, 129, 189] (ts_mi 191).1.cls (ts_mi 191).2.2.2.1 (ts_mi 191).2.1 0 tb_X5_kinds = true := by decide +kernel
theorem con_X5_kinds {X : ts_X} {l : Launch} (hJ : ts_J X l) : ts_Met X l (ts_mi 191) 8 F_X5_kinds := ts_con (ts_mi 191) 8 (E := E_X5_kinds) (mi := ts_mi) (cs := [131, 188, 116, 129, 189]) (tb := tb_X5_kinds) (plainFor_of_name (by decide +kernel)) hJ.1 (List.forall_mem_cons.mpr ⟨⟨mw_131, 1, by decide, con_X5_isSill hJ⟩, List.forall_mem_cons.mpr ⟨⟨mw_188, 2, by decide, con_X5_lacks hJ⟩, List.forall_mem_cons.mpr ⟨⟨mw_116, 0, by decide, con_X5_finding hJ⟩, List.forall_mem_cons.mpr ⟨⟨mw_129, 0, by decide, con_X5_sillAt hJ⟩, List.forall_mem_cons.mpr ⟨⟨mw_189, 7, by decide, con_X5_isSo hJ⟩, fun _ h => absurd h List.not_mem_nil⟩⟩⟩⟩⟩) ok_X5_kinds
def tb_X5_drawn : List (Option ts_I) := [some (.aload_n 0, 0, 0, []), some (.getfield 9, 4, 0, [(3224, 0)]), none, none, some (.iconst 2, 2, 0, []), some (.aload_n 0, 0, 0, []), some (.getfield 9, 4, 0, [(3224, 0)]), none, none, some (.iconst 2, 2, 0, []), some (.iaload, 0, 0, []), some (.ldc 235, 1103515245, 0, [(5115, 0)]), none, some (.imul, 0, 0, []), some (.sipush 12345, 12345, 0, []), none, none, some (.iadd, 0, 0, []), some (.iastore, 0, 0, []), some (.aload_n 0, 0, 0, []), some (.getfield 9, 4, 0, [(3224, 0)]), none, none, some (.iconst 2, 2, 0, []), some (.iaload, 0, 0, []), some (.bipush 8, 8, 0, []), none, some (.iushr, 0, 0, []), some (.ireturn, 0, 0, [])]
noncomputable def E_X5_drawn : ts_E := fun _ _ _ => none
noncomputable def F_X5_drawn : List ts_V → ts_S → Option ts_A := ts_Fn E_X5_drawn tb_X5_drawn 1
set_option maxRecDepth 20000 in
theorem ok_X5_drawn : ts_tbo 0 ts_mi [] (ts_mi 192).1.cls (ts_mi 192).2.2.2.1 (ts_mi 192).2.1 0 tb_X5_drawn = true := by decide +kernel
theorem con_X5_drawn {X : ts_X} {l : Launch} (hJ : ts_J X l) : ts_Met X l (ts_mi 192) 0 F_X5_drawn := ts_con (ts_mi 192) 0 (E := E_X5_drawn) (mi := ts_mi) (cs := []) (tb := tb_X5_drawn) (plainFor_of_name (by decide +kernel)) hJ.1 (fun _ h => absurd h List.not_mem_nil) ok_X5_drawn
def tb_X5_stroll : List (Option ts_I) := [some (.iload_n 1, 1, 0, []), some (.iconst 1, 1, 0, []), some (.bipush 20, 20, 0, []), none, some (.invokestatic 70, 117, 3, [(4055, 9), (0, 0)]), none, none, some (.ifCond .ne 10, 17, 0, []), none, none, some (.aload_n 0, 0, 0, []), some (.ldc 60, 4293967295, 0, [(4062, 0)]), none, some (.invokevirtual 66, 116, 2, [(4063, 4), (0, 0)]), none, none, some (.ireturn, 0, 0, []), some (.aload_n 0, 0, 0, []), some (.getfield 9, 4, 0, [(3224, 0)]), none, none, some (.iconst 0, 0, 0, []), some (.iaload, 0, 0, []), some (.iload_n 1, 1, 0, []), some (.iadd, 0, 0, []), some (.ldc 151, 99999, 0, [(4202, 0)]), none, some (.if_icmp .le 10, 37, 0, []), none, none, some (.aload_n 0, 0, 0, []), some (.ldc 169, 4293967291, 0, [(4212, 0)]), none, some (.invokevirtual 66, 116, 2, [(4063, 4), (0, 0)]), none, none, some (.ireturn, 0, 0, []), some (.iconst 0, 0, 0, []), some (.istore_n 2, 2, 0, []), some (.iload_n 2, 2, 0, []), some (.iload_n 1, 1, 0, []), some (.if_icmp .ge 46, 87, 0, []), none, none, some (.aload_n 0, 0, 0, []), some (.invokevirtual 236, 192, 1, [(5111, 4), (0, 0)]), none, none, some (.bipush 6, 6, 0, []), none, some (.irem, 0, 0, []), some (.istore_n 3, 3, 0, []), some (.aload_n 0, 0, 0, []), some (.invokevirtual 236, 192, 1, [(5111, 4), (0, 0)]), none, none, some (.bipush 8, 8, 0, []), none, some (.irem, 0, 0, []), some (.istore 4, 4, 0, []), none, some (.aload_n 0, 0, 0, []), some (.getfield 9, 4, 0, [(3224, 0)]), none, none, some (.aload_n 0, 0, 0, []), some (.invokevirtual 170, 128, 1, [(4225, 4), (0, 0)]), none, none, some (.bipush 10, 10, 0, []), none, some (.iload_n 3, 3, 0, []), some (.imul, 0, 0, []), some (.iload 4, 4, 0, []), none, some (.iadd, 0, 0, []), some (.iastore, 0, 0, []), some (.aload_n 0, 0, 0, []), some (.invokevirtual 174, 162, 1, [(4221, 4), (1, 0)]), none, none, some (.iinc 2 1, 2, 1, []), none, none, some (.goto (-45), 39, 0, [(3, 0), (4, 0)]), none, none, some (.aload_n 0, 0, 0, []), some (.getfield 9, 4, 0, [(3224, 0)]), none, none, some (.iconst 4, 4, 0, []), some (.iaload, 0, 0, []), some (.ireturn, 0, 0, [])]
noncomputable def E_X5_stroll : ts_E := fun z => if z = 117 then F_X5_within else if z = 116 then F_X5_finding else if z = 192 then F_X5_drawn else if z = 128 then F_X5_placeNow else if z = 162 then F_X5_day else fun _ _ => none
noncomputable def F_X5_stroll : List ts_V → ts_S → Option ts_A := ts_Fn E_X5_stroll tb_X5_stroll 5
set_option maxRecDepth 20000 in
theorem ok_X5_stroll : ts_tbo 7 ts_mi [117, 116, 192, 128, 162] (ts_mi 193).1.cls (ts_mi 193).2.2.2.1 (ts_mi 193).2.1 0 tb_X5_stroll = true := by decide +kernel
theorem con_X5_stroll {X : ts_X} {l : Launch} (hJ : ts_J X l) : ts_Met X l (ts_mi 193) 7 F_X5_stroll := ts_con (ts_mi 193) 7 (E := E_X5_stroll) (mi := ts_mi) (cs := [117, 116, 192, 128, 162]) (tb := tb_X5_stroll) (plainFor_of_name (by decide +kernel)) hJ.1 (List.forall_mem_cons.mpr ⟨⟨mw_117, 0, by decide, con_X5_within hJ⟩, List.forall_mem_cons.mpr ⟨⟨mw_116, 0, by decide, con_X5_finding hJ⟩, List.forall_mem_cons.mpr ⟨⟨mw_192, 0, by decide, con_X5_drawn hJ⟩, List.forall_mem_cons.mpr ⟨⟨mw_128, 0, by decide, con_X5_placeNow hJ⟩, List.forall_mem_cons.mpr ⟨⟨mw_162, 6, by decide, con_X5_day hJ⟩, fun _ h => absurd h List.not_mem_nil⟩⟩⟩⟩⟩) ok_X5_stroll
def tb_X5_odds : List (Option ts_I) := [some (.aload_n 0, 0, 0, []), some (.iload_n 1, 1, 0, []), some (.invokevirtual 134, 134, 2, [(4156, 4), (0, 0)]), none, none, some (.ifCond .eq 22, 27, 0, []), none, none, some (.iload_n 2, 2, 0, []), some (.iconst 0, 0, 0, []), some (.bipush 17, 17, 0, []), none, some (.invokestatic 70, 117, 3, [(4055, 9), (0, 0)]), none, none, some (.ifCond .eq 12, 27, 0, []), none, none, some (.iload_n 3, 3, 0, []), some (.iconst 0, 0, 0, []), some (.iconst 1, 1, 0, []), some (.invokestatic 70, 117, 3, [(4055, 9), (0, 0)]), none, none, some (.ifCond .ne 11, 35, 0, []), none, none, some (.aload_n 0, 0, 0, []), some (.ldc 60, 4293967295, 0, [(4062, 0)]), none, some (.invokevirtual 66, 116, 2, [(4063, 4), (0, 0)]), none, none, some (.i2l, 0, 0, []), some (.lreturn, 0, 0, []), some (.aload_n 0, 0, 0, []), some (.iload_n 1, 1, 0, []), some (.iconst 0, 0, 0, []), some (.invokevirtual 137, 133, 3, [(4160, 4), (0, 0)]), none, none, some (.invokestatic 217, 122, 1, [(5076, 9), (0, 0)]), none, none, some (.istore 4, 4, 0, []), none, some (.bipush 12, 12, 0, []), none, some (.istore 5, 5, 0, []), none, some (.iload 4, 4, 0, []), none, some (.istore 6, 6, 0, []), none, some (.iload 6, 6, 0, []), none, some (.ifCond .eq 21, 77, 0, []), none, none, some (.iload 5, 5, 0, []), none, some (.iload 6, 6, 0, []), none, some (.irem, 0, 0, []), some (.istore 7, 7, 0, []), none, some (.iload 6, 6, 0, []), none, some (.istore 5, 5, 0, []), none, some (.iload 7, 7, 0, []), none, some (.istore 6, 6, 0, []), none, some (.goto (-20), 54, 0, [(7, 0)]), none, none, some (.lconst 1, 1, 0, []), some (.lstore 7, 7, 0, []), none, some (.iconst 0, 0, 0, []), some (.istore 9, 9, 0, []), none, some (.iload 9, 9, 0, []), none, some (.iload_n 2, 2, 0, []), some (.if_icmp .ge 29, 115, 0, []), none, none, some (.lload 7, 7, 0, []), none, some (.iload_n 3, 3, 0, []), some (.ifCond .ne 8, 100, 0, []), none, none, some (.iload 4, 4, 0, []), none, some (.goto 5, 102, 0, []), none, none, some (.bipush 12, 12, 0, []), none, some (.iload 5, 5, 0, []), none, some (.idiv, 0, 0, []), some (.i2l, 0, 0, []), some (.lmul, 0, 0, []), some (.lstore 7, 7, 0, []), none, some (.iinc 9 1, 9, 1, []), none, none, some (.goto (-29), 83, 0, []), none, none, some (.lload 7, 7, 0, []), none, some (.lreturn, 0, 0, [])]
noncomputable def E_X5_odds : ts_E := fun z => if z = 134 then F_X5_isPerson else if z = 117 then F_X5_within else if z = 116 then F_X5_finding else if z = 133 then F_X5_personIs else if z = 122 then F_X5_bits else fun _ _ => none
noncomputable def F_X5_odds : List ts_V → ts_S → Option ts_A := ts_Fn E_X5_odds tb_X5_odds 10
set_option maxRecDepth 20000 in
theorem ok_X5_odds : ts_tbo 2 ts_mi [134, 117, 116, 133, 122] (ts_mi 194).1.cls (ts_mi 194).2.2.2.1 (ts_mi 194).2.1 0 tb_X5_odds = true := by decide +kernel
theorem con_X5_odds {X : ts_X} {l : Launch} (hJ : ts_J X l) : ts_Met X l (ts_mi 194) 2 F_X5_odds := ts_con (ts_mi 194) 2 (E := E_X5_odds) (mi := ts_mi) (cs := [134, 117, 116, 133, 122]) (tb := tb_X5_odds) (plainFor_of_name (by decide +kernel)) hJ.1 (List.forall_mem_cons.mpr ⟨⟨mw_134, 1, by decide, con_X5_isPerson hJ⟩, List.forall_mem_cons.mpr ⟨⟨mw_117, 0, by decide, con_X5_within hJ⟩, List.forall_mem_cons.mpr ⟨⟨mw_116, 0, by decide, con_X5_finding hJ⟩, List.forall_mem_cons.mpr ⟨⟨mw_133, 1, by decide, con_X5_personIs hJ⟩, List.forall_mem_cons.mpr ⟨⟨mw_122, 0, by decide, con_X5_bits hJ⟩, fun _ h => absurd h List.not_mem_nil⟩⟩⟩⟩⟩) ok_X5_odds
def tb_X5_seed : List (Option ts_I) := [some (.aload_n 0, 0, 0, []), some (.iconst 2, 2, 0, []), some (.iload_n 1, 1, 0, []), some (.invokevirtual 78, 118, 3, [(4058, 4), (0, 0)]), none, none, some (.ireturn, 0, 0, [])]
noncomputable def E_X5_seed : ts_E := fun z => if z = 118 then F_X5_become else fun _ _ => none
noncomputable def F_X5_seed : List ts_V → ts_S → Option ts_A := ts_Fn E_X5_seed tb_X5_seed 2
set_option maxRecDepth 20000 in
theorem ok_X5_seed : ts_tbo 1 ts_mi [118] (ts_mi 195).1.cls (ts_mi 195).2.2.2.1 (ts_mi 195).2.1 0 tb_X5_seed = true := by decide +kernel
theorem con_X5_seed {X : ts_X} {l : Launch} (hJ : ts_J X l) : ts_Met X l (ts_mi 195) 1 F_X5_seed := ts_con (ts_mi 195) 1 (E := E_X5_seed) (mi := ts_mi) (cs := [118]) (tb := tb_X5_seed) (plainFor_of_name (by decide +kernel)) hJ.1 (List.forall_mem_cons.mpr ⟨⟨mw_118, 0, by decide, con_X5_become hJ⟩, fun _ h => absurd h List.not_mem_nil⟩) ok_X5_seed
def tb_X5_feed : List (Option ts_I) := [some (.iload_n 2, 2, 0, []), some (.iconst 1, 1, 0, []), some (.iconst 4, 4, 0, []), some (.invokestatic 70, 117, 3, [(4055, 9), (0, 0)]), none, none, some (.ifCond .ne 10, 16, 0, []), none, none, some (.aload_n 0, 0, 0, []), some (.ldc 60, 4293967295, 0, [(4062, 0)]), none, some (.invokevirtual 66, 116, 2, [(4063, 4), (0, 0)]), none, none, some (.ireturn, 0, 0, []), some (.aload_n 0, 0, 0, []), some (.getfield 239, 4, 6, [(3230, 0)]), none, none, some (.iload_n 2, 2, 0, []), some (.iadd, 0, 0, []), some (.bipush 120, 120, 0, []), none, some (.if_icmp .le 10, 34, 0, []), none, none, some (.aload_n 0, 0, 0, []), some (.ldc 91, 4293967294, 0, [(4078, 0)]), none, some (.invokevirtual 66, 116, 2, [(4063, 4), (0, 0)]), none, none, some (.ireturn, 0, 0, []), some (.iload_n 2, 2, 0, []), some (.iconst 1, 1, 0, []), some (.isub, 0, 0, []), some (.istore_n 3, 3, 0, []), some (.iload_n 3, 3, 0, []), some (.ifCond .lt 38, 77, 0, []), none, none, some (.aload_n 0, 0, 0, []), some (.getfield 22, 4, 5, [(3229, 0)]), none, none, some (.aload_n 0, 0, 0, []), some (.getfield 239, 4, 6, [(3230, 0)]), none, none, some (.iload_n 1, 1, 0, []), some (.bipush 8, 8, 0, []), none, some (.iload_n 3, 3, 0, []), some (.imul, 0, 0, []), some (.ishr, 0, 0, []), some (.sipush 255, 255, 0, []), none, none, some (.iand, 0, 0, []), some (.iastore, 0, 0, []), some (.aload_n 0, 0, 0, []), some (.dup, 0, 0, []), some (.getfield 239, 4, 6, [(3230, 0)]), none, none, some (.iconst 1, 1, 0, []), some (.iadd, 0, 0, []), some (.putfield 239, 4, 6, [(3230, 0)]), none, none, some (.iinc 3 (-1), 3, 4294967295, []), none, none, some (.goto (-36), 38, 0, []), none, none, some (.aload_n 0, 0, 0, []), some (.getfield 239, 4, 6, [(3230, 0)]), none, none, some (.ireturn, 0, 0, [])]
noncomputable def E_X5_feed : ts_E := fun z => if z = 117 then F_X5_within else if z = 116 then F_X5_finding else fun _ _ => none
noncomputable def F_X5_feed : List ts_V → ts_S → Option ts_A := ts_Fn E_X5_feed tb_X5_feed 4
set_option maxRecDepth 20000 in
theorem ok_X5_feed : ts_tbo 1 ts_mi [117, 116] (ts_mi 196).1.cls (ts_mi 196).2.2.2.1 (ts_mi 196).2.1 0 tb_X5_feed = true := by decide +kernel
theorem con_X5_feed {X : ts_X} {l : Launch} (hJ : ts_J X l) : ts_Met X l (ts_mi 196) 1 F_X5_feed := ts_con (ts_mi 196) 1 (E := E_X5_feed) (mi := ts_mi) (cs := [117, 116]) (tb := tb_X5_feed) (plainFor_of_name (by decide +kernel)) hJ.1 (List.forall_mem_cons.mpr ⟨⟨mw_117, 0, by decide, con_X5_within hJ⟩, List.forall_mem_cons.mpr ⟨⟨mw_116, 0, by decide, con_X5_finding hJ⟩, fun _ h => absurd h List.not_mem_nil⟩⟩) ok_X5_feed
def tb_X5_wipe : List (Option ts_I) := [some (.aload_n 0, 0, 0, []), some (.getfield 239, 4, 6, [(3230, 0)]), none, none, some (.istore_n 1, 1, 0, []), some (.aload_n 0, 0, 0, []), some (.iconst 0, 0, 0, []), some (.putfield 239, 4, 6, [(3230, 0)]), none, none, some (.iload_n 1, 1, 0, []), some (.ireturn, 0, 0, [])]
noncomputable def E_X5_wipe : ts_E := fun _ _ _ => none
noncomputable def F_X5_wipe : List ts_V → ts_S → Option ts_A := ts_Fn E_X5_wipe tb_X5_wipe 2
set_option maxRecDepth 20000 in
theorem ok_X5_wipe : ts_tbo 0 ts_mi [] (ts_mi 197).1.cls (ts_mi 197).2.2.2.1 (ts_mi 197).2.1 0 tb_X5_wipe = true := by decide +kernel
theorem con_X5_wipe {X : ts_X} {l : Launch} (hJ : ts_J X l) : ts_Met X l (ts_mi 197) 0 F_X5_wipe := ts_con (ts_mi 197) 0 (E := E_X5_wipe) (mi := ts_mi) (cs := []) (tb := tb_X5_wipe) (plainFor_of_name (by decide +kernel)) hJ.1 (fun _ h => absurd h List.not_mem_nil) ok_X5_wipe
def tb_X5_byteAt : List (Option ts_I) := [some (.iload_n 1, 1, 0, []), some (.aload_n 0, 0, 0, []), some (.getfield 239, 4, 6, [(3230, 0)]), none, none, some (.if_icmp .ge 12, 17, 0, []), none, none, some (.aload_n 0, 0, 0, []), some (.getfield 22, 4, 5, [(3229, 0)]), none, none, some (.iload_n 1, 1, 0, []), some (.iaload, 0, 0, []), some (.goto 4, 18, 0, []), none, none, some (.iconst (-1), 4294967295, 0, []), some (.ireturn, 0, 0, [])]
noncomputable def E_X5_byteAt : ts_E := fun _ _ _ => none
noncomputable def F_X5_byteAt : List ts_V → ts_S → Option ts_A := ts_Fn E_X5_byteAt tb_X5_byteAt 2
set_option maxRecDepth 20000 in
theorem ok_X5_byteAt : ts_tbo 0 ts_mi [] (ts_mi 198).1.cls (ts_mi 198).2.2.2.1 (ts_mi 198).2.1 0 tb_X5_byteAt = true := by decide +kernel
theorem con_X5_byteAt {X : ts_X} {l : Launch} (hJ : ts_J X l) : ts_Met X l (ts_mi 198) 0 F_X5_byteAt := ts_con (ts_mi 198) 0 (E := E_X5_byteAt) (mi := ts_mi) (cs := []) (tb := tb_X5_byteAt) (plainFor_of_name (by decide +kernel)) hJ.1 (fun _ h => absurd h List.not_mem_nil) ok_X5_byteAt
def tb_X5_token : List (Option ts_I) := [some (.aload_n 0, 0, 0, []), some (.aload_n 0, 0, 0, []), some (.getfield 243, 4, 8, [(3232, 0)]), none, none, some (.putfield 246, 4, 7, [(3231, 0)]), none, none, some (.aload_n 0, 0, 0, []), some (.aload_n 0, 0, 0, []), some (.getfield 246, 4, 7, [(3231, 0)]), none, none, some (.invokevirtual 249, 198, 2, [(5140, 4), (0, 0)]), none, none, some (.bipush 32, 32, 0, []), none, some (.if_icmp .ne 16, 34, 0, []), none, none, some (.aload_n 0, 0, 0, []), some (.dup, 0, 0, []), some (.getfield 246, 4, 7, [(3231, 0)]), none, none, some (.iconst 1, 1, 0, []), some (.iadd, 0, 0, []), some (.putfield 246, 4, 7, [(3231, 0)]), none, none, some (.goto (-23), 8, 0, []), none, none, some (.aload_n 0, 0, 0, []), some (.aload_n 0, 0, 0, []), some (.getfield 246, 4, 7, [(3231, 0)]), none, none, some (.invokevirtual 249, 198, 2, [(5140, 4), (0, 0)]), none, none, some (.istore_n 1, 1, 0, []), some (.aload_n 0, 0, 0, []), some (.aload_n 0, 0, 0, []), some (.getfield 246, 4, 7, [(3231, 0)]), none, none, some (.putfield 243, 4, 8, [(3232, 0)]), none, none, some (.aload_n 0, 0, 0, []), some (.iconst 0, 0, 0, []), some (.putfield 252, 4, 10, [(3234, 0)]), none, none, some (.iload_n 1, 1, 0, []), some (.ifCond .ge 11, 68, 0, []), none, none, some (.aload_n 0, 0, 0, []), some (.iconst 0, 0, 0, []), some (.putfield 255, 4, 9, [(3233, 0)]), none, none, some (.goto 141, 206, 0, []), none, none, some (.iload_n 1, 1, 0, []), some (.bipush 97, 97, 0, []), none, some (.bipush 122, 122, 0, []), none, some (.invokestatic 70, 117, 3, [(4055, 9), (0, 0)]), none, none, some (.ifCond .eq 39, 115, 0, []), none, none, some (.aload_n 0, 0, 0, []), some (.iconst 1, 1, 0, []), some (.putfield 255, 4, 9, [(3233, 0)]), none, none, some (.aload_n 0, 0, 0, []), some (.aload_n 0, 0, 0, []), some (.getfield 243, 4, 8, [(3232, 0)]), none, none, some (.invokevirtual 249, 198, 2, [(5140, 4), (0, 0)]), none, none, some (.bipush 97, 97, 0, []), none, some (.bipush 122, 122, 0, []), none, some (.invokestatic 70, 117, 3, [(4055, 9), (0, 0)]), none, none, some (.ifCond .eq 107, 206, 0, []), none, none, some (.aload_n 0, 0, 0, []), some (.dup, 0, 0, []), some (.getfield 243, 4, 8, [(3232, 0)]), none, none, some (.iconst 1, 1, 0, []), some (.iadd, 0, 0, []), some (.putfield 243, 4, 8, [(3232, 0)]), none, none, some (.goto (-28), 84, 0, []), none, none, some (.iload_n 1, 1, 0, []), some (.bipush 48, 48, 0, []), none, some (.bipush 57, 57, 0, []), none, some (.invokestatic 70, 117, 3, [(4055, 9), (0, 0)]), none, none, some (.ifCond .eq 68, 191, 0, []), none, none, some (.aload_n 0, 0, 0, []), some (.iconst 2, 2, 0, []), some (.putfield 255, 4, 9, [(3233, 0)]), none, none, some (.aload_n 0, 0, 0, []), some (.aload_n 0, 0, 0, []), some (.getfield 243, 4, 8, [(3232, 0)]), none, none, some (.invokevirtual 249, 198, 2, [(5140, 4), (0, 0)]), none, none, some (.bipush 48, 48, 0, []), none, some (.bipush 57, 57, 0, []), none, some (.invokestatic 70, 117, 3, [(4055, 9), (0, 0)]), none, none, some (.ifCond .eq 60, 206, 0, []), none, none, some (.aload_n 0, 0, 0, []), some (.sipush 10000, 10000, 0, []), none, none, some (.bipush 10, 10, 0, []), none, some (.aload_n 0, 0, 0, []), some (.getfield 252, 4, 10, [(3234, 0)]), none, none, some (.imul, 0, 0, []), some (.aload_n 0, 0, 0, []), some (.aload_n 0, 0, 0, []), some (.getfield 243, 4, 8, [(3232, 0)]), none, none, some (.invokevirtual 249, 198, 2, [(5140, 4), (0, 0)]), none, none, some (.iadd, 0, 0, []), some (.bipush 48, 48, 0, []), none, some (.isub, 0, 0, []), some (.invokestatic 146, 27, 2, [(4207, 9), (0, 0)]), none, none, some (.putfield 252, 4, 10, [(3234, 0)]), none, none, some (.aload_n 0, 0, 0, []), some (.dup, 0, 0, []), some (.getfield 243, 4, 8, [(3232, 0)]), none, none, some (.iconst 1, 1, 0, []), some (.iadd, 0, 0, []), some (.putfield 243, 4, 8, [(3232, 0)]), none, none, some (.goto (-57), 131, 0, []), none, none, some (.aload_n 0, 0, 0, []), some (.iconst 3, 3, 0, []), some (.putfield 255, 4, 9, [(3233, 0)]), none, none, some (.aload_n 0, 0, 0, []), some (.dup, 0, 0, []), some (.getfield 243, 4, 8, [(3232, 0)]), none, none, some (.iconst 1, 1, 0, []), some (.iadd, 0, 0, []), some (.putfield 243, 4, 8, [(3232, 0)]), none, none, some (.return_, 0, 0, [])]
noncomputable def E_X5_token : ts_E := fun z => if z = 198 then F_X5_byteAt else if z = 117 then F_X5_within else if z = 27 then F_J9_min_7cf53 else fun _ _ => none
noncomputable def F_X5_token : List ts_V → ts_S → Option ts_A := ts_Fn E_X5_token tb_X5_token 2
set_option maxRecDepth 20000 in
theorem ok_X5_token : ts_tbo 1 ts_mi [198, 117, 27] (ts_mi 199).1.cls (ts_mi 199).2.2.2.1 (ts_mi 199).2.1 0 tb_X5_token = true := by decide +kernel
theorem con_X5_token {X : ts_X} {l : Launch} (hJ : ts_J X l) : ts_Met X l (ts_mi 199) 1 F_X5_token := ts_con (ts_mi 199) 1 (E := E_X5_token) (mi := ts_mi) (cs := [198, 117, 27]) (tb := tb_X5_token) (plainFor_of_name (by decide +kernel)) hJ.1 (List.forall_mem_cons.mpr ⟨⟨mw_198, 0, by decide, con_X5_byteAt hJ⟩, List.forall_mem_cons.mpr ⟨⟨mw_117, 0, by decide, con_X5_within hJ⟩, List.forall_mem_cons.mpr ⟨⟨mw_27, 0, by decide, con_J9_min_7cf53 hJ⟩, fun _ h => absurd h List.not_mem_nil⟩⟩⟩) ok_X5_token
def tb_X5_isWord : List (Option ts_I) := [some (.aload_n 0, 0, 0, []), some (.getfield 255, 4, 9, [(3233, 0)]), none, none, some (.iconst 1, 1, 0, []), some (.if_icmp .ne 23, 28, 0, []), none, none, some (.aload_n 0, 0, 0, []), some (.getfield 243, 4, 8, [(3232, 0)]), none, none, some (.aload_n 0, 0, 0, []), some (.getfield 246, 4, 7, [(3231, 0)]), none, none, some (.isub, 0, 0, []), some (.aload_n 1, 1, 0, []), some (.invokevirtual 258, 3, 1, [(5152, 8), (0, 0)]), none, none, some (.if_icmp .ne 7, 28, 0, []), none, none, some (.iconst 1, 1, 0, []), some (.goto 4, 29, 0, []), none, none, some (.iconst 0, 0, 0, []), some (.istore_n 2, 2, 0, []), some (.iconst 0, 0, 0, []), some (.istore_n 3, 3, 0, []), some (.iload_n 3, 3, 0, []), some (.aload_n 1, 1, 0, []), some (.invokevirtual 258, 3, 1, [(5152, 8), (0, 0)]), none, none, some (.if_icmp .ge 38, 75, 0, []), none, none, some (.iload_n 2, 2, 0, []), some (.ifCond .eq 34, 75, 0, []), none, none, some (.aload_n 0, 0, 0, []), some (.getfield 22, 4, 5, [(3229, 0)]), none, none, some (.aload_n 0, 0, 0, []), some (.getfield 246, 4, 7, [(3231, 0)]), none, none, some (.iload_n 3, 3, 0, []), some (.iadd, 0, 0, []), some (.iaload, 0, 0, []), some (.aload_n 1, 1, 0, []), some (.iload_n 3, 3, 0, []), some (.invokevirtual 261, 4, 2, [(5153, 8), (0, 0)]), none, none, some (.if_icmp .ne 7, 67, 0, []), none, none, some (.iconst 1, 1, 0, []), some (.goto 4, 68, 0, []), none, none, some (.iconst 0, 0, 0, []), some (.istore_n 2, 2, 0, []), some (.iinc 3 1, 3, 1, []), none, none, some (.goto (-40), 32, 0, []), none, none, some (.iload_n 2, 2, 0, []), some (.ireturn, 1, 0, [])]
noncomputable def E_X5_isWord : ts_E := fun z => if z = 3 then F_slen else if z = 4 then F_schar else fun _ _ => none
noncomputable def F_X5_isWord : List ts_V → ts_S → Option ts_A := ts_Fn E_X5_isWord tb_X5_isWord 4
set_option maxRecDepth 20000 in
theorem ok_X5_isWord : ts_tbo 4 ts_mi [3, 4] (ts_mi 200).1.cls (ts_mi 200).2.2.2.1 (ts_mi 200).2.1 0 tb_X5_isWord = true := by decide +kernel
theorem con_X5_isWord {X : ts_X} {l : Launch} (hJ : ts_J X l) : ts_Met X l (ts_mi 200) 4 F_X5_isWord := ts_con (ts_mi 200) 4 (E := E_X5_isWord) (mi := ts_mi) (cs := [3, 4]) (tb := tb_X5_isWord) (plainFor_of_name (by decide +kernel)) hJ.1 (List.forall_mem_cons.mpr ⟨⟨mw_3, 1, by decide, con_slen hJ⟩, List.forall_mem_cons.mpr ⟨⟨mw_4, 3, by decide, con_schar hJ⟩, fun _ h => absurd h List.not_mem_nil⟩⟩) ok_X5_isWord
def tb_X5_must : List (Option ts_I) := [some (.aload_n 0, 0, 0, []), some (.aload_n 0, 0, 0, []), some (.getfield 265, 4, 11, [(3235, 1)]), none, none, some (.ifCond .ne 7, 12, 0, []), none, none, some (.iload_n 1, 1, 0, []), some (.ifCond .ne 7, 16, 0, []), none, none, some (.iconst 1, 1, 0, []), some (.goto 4, 17, 0, []), none, none, some (.iconst 0, 0, 0, []), some (.putfield 265, 4, 11, [(3235, 1)]), none, none, some (.aload_n 0, 0, 0, []), some (.getfield 265, 4, 11, [(3235, 1)]), none, none, some (.ifCond .ne 7, 31, 0, []), none, none, some (.aload_n 0, 0, 0, []), some (.invokevirtual 269, 199, 1, [(5136, 4), (1, 0)]), none, none, some (.return_, 0, 0, [])]
noncomputable def E_X5_must : ts_E := fun z => if z = 199 then F_X5_token else fun _ _ => none
noncomputable def F_X5_must : List ts_V → ts_S → Option ts_A := ts_Fn E_X5_must tb_X5_must 2
set_option maxRecDepth 20000 in
theorem ok_X5_must : ts_tbo 2 ts_mi [199] (ts_mi 201).1.cls (ts_mi 201).2.2.2.1 (ts_mi 201).2.1 0 tb_X5_must = true := by decide +kernel
theorem con_X5_must {X : ts_X} {l : Launch} (hJ : ts_J X l) : ts_Met X l (ts_mi 201) 2 F_X5_must := ts_con (ts_mi 201) 2 (E := E_X5_must) (mi := ts_mi) (cs := [199]) (tb := tb_X5_must) (plainFor_of_name (by decide +kernel)) hJ.1 (List.forall_mem_cons.mpr ⟨⟨mw_199, 1, by decide, con_X5_token hJ⟩, fun _ h => absurd h List.not_mem_nil⟩) ok_X5_must
def tb_X5_number : List (Option ts_I) := [some (.aload_n 0, 0, 0, []), some (.getfield 252, 4, 10, [(3234, 0)]), none, none, some (.istore_n 3, 3, 0, []), some (.aload_n 0, 0, 0, []), some (.aload_n 0, 0, 0, []), some (.getfield 255, 4, 9, [(3233, 0)]), none, none, some (.iconst 2, 2, 0, []), some (.if_icmp .ne 16, 27, 0, []), none, none, some (.iload_n 3, 3, 0, []), some (.iload_n 1, 1, 0, []), some (.iload_n 2, 2, 0, []), some (.invokestatic 70, 117, 3, [(4055, 9), (0, 0)]), none, none, some (.ifCond .eq 7, 27, 0, []), none, none, some (.iconst 1, 1, 0, []), some (.goto 4, 28, 0, []), none, none, some (.iconst 0, 0, 0, []), some (.invokevirtual 272, 201, 2, [(5158, 4), (1, 0)]), none, none, some (.iload_n 3, 3, 0, []), some (.ireturn, 0, 0, [])]
noncomputable def E_X5_number : ts_E := fun z => if z = 117 then F_X5_within else if z = 201 then F_X5_must else fun _ _ => none
noncomputable def F_X5_number : List ts_V → ts_S → Option ts_A := ts_Fn E_X5_number tb_X5_number 4
set_option maxRecDepth 20000 in
theorem ok_X5_number : ts_tbo 3 ts_mi [117, 201] (ts_mi 202).1.cls (ts_mi 202).2.2.2.1 (ts_mi 202).2.1 0 tb_X5_number = true := by decide +kernel
theorem con_X5_number {X : ts_X} {l : Launch} (hJ : ts_J X l) : ts_Met X l (ts_mi 202) 3 F_X5_number := ts_con (ts_mi 202) 3 (E := E_X5_number) (mi := ts_mi) (cs := [117, 201]) (tb := tb_X5_number) (plainFor_of_name (by decide +kernel)) hJ.1 (List.forall_mem_cons.mpr ⟨⟨mw_117, 0, by decide, con_X5_within hJ⟩, List.forall_mem_cons.mpr ⟨⟨mw_201, 2, by decide, con_X5_must hJ⟩, fun _ h => absurd h List.not_mem_nil⟩⟩) ok_X5_number
def tb_X5_takesWord : List (Option ts_I) := [some (.aload_n 0, 0, 0, []), some (.getfield 265, 4, 11, [(3235, 1)]), none, none, some (.ifCond .ne 15, 19, 0, []), none, none, some (.aload_n 0, 0, 0, []), some (.aload_n 1, 1, 0, []), some (.invokevirtual 276, 200, 2, [(5148, 4), (0, 0)]), none, none, some (.ifCond .eq 7, 19, 0, []), none, none, some (.iconst 1, 1, 0, []), some (.goto 4, 20, 0, []), none, none, some (.iconst 0, 0, 0, []), some (.istore_n 2, 2, 0, []), some (.iload_n 2, 2, 0, []), some (.ifCond .eq 8, 30, 0, []), none, none, some (.aload_n 0, 0, 0, []), some (.iconst 1, 1, 0, []), some (.invokevirtual 272, 201, 2, [(5158, 4), (1, 0)]), none, none, some (.iload_n 2, 2, 0, []), some (.ireturn, 1, 0, [])]
noncomputable def E_X5_takesWord : ts_E := fun z => if z = 200 then F_X5_isWord else if z = 201 then F_X5_must else fun _ _ => none
noncomputable def F_X5_takesWord : List ts_V → ts_S → Option ts_A := ts_Fn E_X5_takesWord tb_X5_takesWord 3
set_option maxRecDepth 20000 in
theorem ok_X5_takesWord : ts_tbo 5 ts_mi [200, 201] (ts_mi 203).1.cls (ts_mi 203).2.2.2.1 (ts_mi 203).2.1 0 tb_X5_takesWord = true := by decide +kernel
theorem con_X5_takesWord {X : ts_X} {l : Launch} (hJ : ts_J X l) : ts_Met X l (ts_mi 203) 5 F_X5_takesWord := ts_con (ts_mi 203) 5 (E := E_X5_takesWord) (mi := ts_mi) (cs := [200, 201]) (tb := tb_X5_takesWord) (plainFor_of_name (by decide +kernel)) hJ.1 (List.forall_mem_cons.mpr ⟨⟨mw_200, 4, by decide, con_X5_isWord hJ⟩, List.forall_mem_cons.mpr ⟨⟨mw_201, 2, by decide, con_X5_must hJ⟩, fun _ h => absurd h List.not_mem_nil⟩⟩) ok_X5_takesWord
def tb_X5_readSill : List (Option ts_I) := [some (.aload_n 0, 0, 0, []), some (.aload_n 0, 0, 0, []), some (.getfield 280, 4, 15, [(3239, 0)]), none, none, some (.bipush 8, 8, 0, []), none, some (.if_icmp .ge 7, 14, 0, []), none, none, some (.iconst 1, 1, 0, []), some (.goto 4, 15, 0, []), none, none, some (.iconst 0, 0, 0, []), some (.invokevirtual 272, 201, 2, [(5158, 4), (1, 0)]), none, none, some (.aload_n 0, 0, 0, []), some (.getfield 45, 4, 13, [(3237, 0)]), none, none, some (.iload_n 2, 2, 0, []), some (.iload_n 1, 1, 0, []), some (.iastore, 0, 0, []), some (.aload_n 0, 0, 0, []), some (.getfield 45, 4, 13, [(3237, 0)]), none, none, some (.iload_n 2, 2, 0, []), some (.iconst 2, 2, 0, []), some (.iadd, 0, 0, []), some (.iconst 0, 0, 0, []), some (.iastore, 0, 0, []), some (.aload_n 0, 0, 0, []), some (.ldc_w 283, 9, 1, [(22, 0)]), none, none, some (.invokevirtual 285, 203, 2, [(5163, 4), (0, 0)]), none, none, some (.ifCond .eq 72, 113, 0, []), none, none, some (.aload_n 0, 0, 0, []), some (.getfield 45, 4, 13, [(3237, 0)]), none, none, some (.iload_n 2, 2, 0, []), some (.iconst 3, 3, 0, []), some (.iadd, 0, 0, []), some (.aload_n 0, 0, 0, []), some (.iconst 0, 0, 0, []), some (.bipush 11, 11, 0, []), none, some (.invokevirtual 288, 202, 3, [(5167, 4), (0, 0)]), none, none, some (.iastore, 0, 0, []), some (.iconst 1, 1, 0, []), some (.istore_n 3, 3, 0, []), some (.aload_n 0, 0, 0, []), some (.getfield 265, 4, 11, [(3235, 1)]), none, none, some (.ifCond .ne 39, 104, 0, []), none, none, some (.aload_n 0, 0, 0, []), some (.getfield 255, 4, 9, [(3233, 0)]), none, none, some (.iconst 2, 2, 0, []), some (.if_icmp .ne 31, 104, 0, []), none, none, some (.iload_n 3, 3, 0, []), some (.iconst 5, 5, 0, []), some (.if_icmp .ge 26, 104, 0, []), none, none, some (.aload_n 0, 0, 0, []), some (.getfield 45, 4, 13, [(3237, 0)]), none, none, some (.iload_n 2, 2, 0, []), some (.iconst 3, 3, 0, []), some (.iadd, 0, 0, []), some (.iload_n 3, 3, 0, []), some (.iadd, 0, 0, []), some (.aload_n 0, 0, 0, []), some (.iconst 0, 0, 0, []), some (.bipush 11, 11, 0, []), none, some (.invokevirtual 288, 202, 3, [(5167, 4), (0, 0)]), none, none, some (.iastore, 0, 0, []), some (.iinc 3 1, 3, 1, []), none, none, some (.goto (-40), 61, 0, []), none, none, some (.aload_n 0, 0, 0, []), some (.getfield 45, 4, 13, [(3237, 0)]), none, none, some (.iload_n 2, 2, 0, []), some (.iconst 2, 2, 0, []), some (.iadd, 0, 0, []), some (.iload_n 3, 3, 0, []), some (.iastore, 0, 0, []), some (.aload_n 0, 0, 0, []), some (.getfield 45, 4, 13, [(3237, 0)]), none, none, some (.iload_n 2, 2, 0, []), some (.iconst 1, 1, 0, []), some (.iadd, 0, 0, []), some (.aload_n 0, 0, 0, []), some (.ldc_w 291, 10, 1, [(23, 0)]), none, none, some (.invokevirtual 285, 203, 2, [(5163, 4), (0, 0)]), none, none, some (.ifCond .eq 7, 134, 0, []), none, none, some (.iconst 1, 1, 0, []), some (.goto 4, 135, 0, []), none, none, some (.iconst 0, 0, 0, []), some (.iastore, 0, 0, []), some (.aload_n 0, 0, 0, []), some (.dup, 0, 0, []), some (.getfield 280, 4, 15, [(3239, 0)]), none, none, some (.iconst 1, 1, 0, []), some (.iadd, 0, 0, []), some (.putfield 280, 4, 15, [(3239, 0)]), none, none, some (.return_, 0, 0, [])]
noncomputable def E_X5_readSill : ts_E := fun z => if z = 201 then F_X5_must else if z = 203 then F_X5_takesWord else if z = 202 then F_X5_number else fun _ _ => none
noncomputable def F_X5_readSill : List ts_V → ts_S → Option ts_A := ts_Fn E_X5_readSill tb_X5_readSill 4
set_option maxRecDepth 20000 in
theorem ok_X5_readSill : ts_tbo 6 ts_mi [201, 203, 202] (ts_mi 204).1.cls (ts_mi 204).2.2.2.1 (ts_mi 204).2.1 0 tb_X5_readSill = true := by decide +kernel
theorem con_X5_readSill {X : ts_X} {l : Launch} (hJ : ts_J X l) : ts_Met X l (ts_mi 204) 6 F_X5_readSill := ts_con (ts_mi 204) 6 (E := E_X5_readSill) (mi := ts_mi) (cs := [201, 203, 202]) (tb := tb_X5_readSill) (plainFor_of_name (by decide +kernel)) hJ.1 (List.forall_mem_cons.mpr ⟨⟨mw_201, 2, by decide, con_X5_must hJ⟩, List.forall_mem_cons.mpr ⟨⟨mw_203, 5, by decide, con_X5_takesWord hJ⟩, List.forall_mem_cons.mpr ⟨⟨mw_202, 3, by decide, con_X5_number hJ⟩, fun _ h => absurd h List.not_mem_nil⟩⟩⟩) ok_X5_readSill
def tb_X5_readPerson : List (Option ts_I) := [some (.aload_n 0, 0, 0, []), some (.aload_n 0, 0, 0, []), some (.getfield 293, 4, 16, [(4000, 0)]), none, none, some (.bipush 6, 6, 0, []), none, some (.if_icmp .ge 7, 14, 0, []), none, none, some (.iconst 1, 1, 0, []), some (.goto 4, 15, 0, []), none, none, some (.iconst 0, 0, 0, []), some (.invokevirtual 272, 201, 2, [(5158, 4), (1, 0)]), none, none, some (.aload_n 0, 0, 0, []), some (.getfield 45, 4, 13, [(3237, 0)]), none, none, some (.iload_n 1, 1, 0, []), some (.bipush 10, 10, 0, []), none, some (.iastore, 0, 0, []), some (.aload_n 0, 0, 0, []), some (.getfield 45, 4, 13, [(3237, 0)]), none, none, some (.iload_n 1, 1, 0, []), some (.iconst 1, 1, 0, []), some (.iadd, 0, 0, []), some (.aload_n 0, 0, 0, []), some (.ldc_w 296, 11, 1, [(24, 0)]), none, none, some (.invokevirtual 285, 203, 2, [(5163, 4), (0, 0)]), none, none, some (.ifCond .eq 14, 54, 0, []), none, none, some (.aload_n 0, 0, 0, []), some (.iconst 0, 0, 0, []), some (.sipush 4095, 4095, 0, []), none, none, some (.invokevirtual 288, 202, 3, [(5167, 4), (0, 0)]), none, none, some (.goto 4, 55, 0, []), none, none, some (.iconst 0, 0, 0, []), some (.iastore, 0, 0, []), some (.aload_n 0, 0, 0, []), some (.getfield 45, 4, 13, [(3237, 0)]), none, none, some (.iload_n 1, 1, 0, []), some (.iconst 2, 2, 0, []), some (.iadd, 0, 0, []), some (.aload_n 0, 0, 0, []), some (.ldc_w 298, 12, 1, [(25, 0)]), none, none, some (.invokevirtual 285, 203, 2, [(5163, 4), (0, 0)]), none, none, some (.ifCond .eq 17, 87, 0, []), none, none, some (.aload_n 0, 0, 0, []), some (.iconst 0, 0, 0, []), some (.aload_n 0, 0, 0, []), some (.getfield 280, 4, 15, [(3239, 0)]), none, none, some (.iconst 1, 1, 0, []), some (.isub, 0, 0, []), some (.invokevirtual 288, 202, 3, [(5167, 4), (0, 0)]), none, none, some (.goto 4, 88, 0, []), none, none, some (.iconst (-1), 4294967295, 0, []), some (.iastore, 0, 0, []), some (.aload_n 0, 0, 0, []), some (.dup, 0, 0, []), some (.getfield 293, 4, 16, [(4000, 0)]), none, none, some (.iconst 1, 1, 0, []), some (.iadd, 0, 0, []), some (.putfield 293, 4, 16, [(4000, 0)]), none, none, some (.return_, 0, 0, [])]
noncomputable def E_X5_readPerson : ts_E := fun z => if z = 201 then F_X5_must else if z = 203 then F_X5_takesWord else if z = 202 then F_X5_number else fun _ _ => none
noncomputable def F_X5_readPerson : List ts_V → ts_S → Option ts_A := ts_Fn E_X5_readPerson tb_X5_readPerson 2
set_option maxRecDepth 20000 in
theorem ok_X5_readPerson : ts_tbo 6 ts_mi [201, 203, 202] (ts_mi 205).1.cls (ts_mi 205).2.2.2.1 (ts_mi 205).2.1 0 tb_X5_readPerson = true := by decide +kernel
theorem con_X5_readPerson {X : ts_X} {l : Launch} (hJ : ts_J X l) : ts_Met X l (ts_mi 205) 6 F_X5_readPerson := ts_con (ts_mi 205) 6 (E := E_X5_readPerson) (mi := ts_mi) (cs := [201, 203, 202]) (tb := tb_X5_readPerson) (plainFor_of_name (by decide +kernel)) hJ.1 (List.forall_mem_cons.mpr ⟨⟨mw_201, 2, by decide, con_X5_must hJ⟩, List.forall_mem_cons.mpr ⟨⟨mw_203, 5, by decide, con_X5_takesWord hJ⟩, List.forall_mem_cons.mpr ⟨⟨mw_202, 3, by decide, con_X5_number hJ⟩, fun _ h => absurd h List.not_mem_nil⟩⟩⟩) ok_X5_readPerson
def tb_X5_readItem : List (Option ts_I) := [some (.bipush 8, 8, 0, []), none, some (.aload_n 0, 0, 0, []), some (.getfield 300, 4, 14, [(3238, 0)]), none, none, some (.imul, 0, 0, []), some (.istore_n 1, 1, 0, []), some (.iconst (-1), 4294967295, 0, []), some (.istore_n 2, 2, 0, []), some (.iconst 0, 0, 0, []), some (.istore_n 3, 3, 0, []), some (.iload_n 3, 3, 0, []), some (.aload_n 0, 0, 0, []), some (.getfield 41, 4, 12, [(3236, 0)]), none, none, some (.arraylength, 0, 0, []), some (.if_icmp .ge 28, 46, 0, []), none, none, some (.aload_n 0, 0, 0, []), some (.aload_n 0, 0, 0, []), some (.getfield 41, 4, 12, [(3236, 0)]), none, none, some (.iload_n 3, 3, 0, []), some (.aaload, 0, 0, []), some (.invokevirtual 276, 200, 2, [(5148, 4), (0, 0)]), none, none, some (.ifCond .eq 7, 38, 0, []), none, none, some (.iload_n 3, 3, 0, []), some (.goto 4, 39, 0, []), none, none, some (.iload_n 2, 2, 0, []), some (.istore_n 2, 2, 0, []), some (.iinc 3 1, 3, 1, []), none, none, some (.goto (-31), 12, 0, []), none, none, some (.iload_n 2, 2, 0, []), some (.ifCond .lt 12, 59, 0, []), none, none, some (.aload_n 0, 0, 0, []), some (.iload_n 2, 2, 0, []), some (.iload_n 1, 1, 0, []), some (.invokevirtual 303, 204, 3, [(5154, 4), (1, 0)]), none, none, some (.goto 90, 146, 0, []), none, none, some (.aload_n 0, 0, 0, []), some (.ldc_w 307, 7, 1, [(20, 0)]), none, none, some (.invokevirtual 276, 200, 2, [(5148, 4), (0, 0)]), none, none, some (.ifCond .eq 11, 77, 0, []), none, none, some (.aload_n 0, 0, 0, []), some (.iload_n 1, 1, 0, []), some (.invokevirtual 309, 205, 2, [(5173, 4), (1, 0)]), none, none, some (.goto 72, 146, 0, []), none, none, some (.aload_n 0, 0, 0, []), some (.ldc_w 312, 8, 1, [(21, 0)]), none, none, some (.invokevirtual 285, 203, 2, [(5163, 4), (0, 0)]), none, none, some (.ifCond .eq 57, 141, 0, []), none, none, some (.aload_n 0, 0, 0, []), some (.getfield 45, 4, 13, [(3237, 0)]), none, none, some (.iload_n 1, 1, 0, []), some (.bipush 11, 11, 0, []), none, some (.iastore, 0, 0, []), some (.aload_n 0, 0, 0, []), some (.getfield 45, 4, 13, [(3237, 0)]), none, none, some (.iload_n 1, 1, 0, []), some (.iconst 1, 1, 0, []), some (.iadd, 0, 0, []), some (.aload_n 0, 0, 0, []), some (.iconst 0, 0, 0, []), some (.iconst 5, 5, 0, []), some (.invokevirtual 288, 202, 3, [(5167, 4), (0, 0)]), none, none, some (.iastore, 0, 0, []), some (.aload_n 0, 0, 0, []), some (.getfield 45, 4, 13, [(3237, 0)]), none, none, some (.iload_n 1, 1, 0, []), some (.iconst 2, 2, 0, []), some (.iadd, 0, 0, []), some (.aload_n 0, 0, 0, []), some (.iconst 0, 0, 0, []), some (.iconst 5, 5, 0, []), some (.invokevirtual 288, 202, 3, [(5167, 4), (0, 0)]), none, none, some (.iastore, 0, 0, []), some (.aload_n 0, 0, 0, []), some (.getfield 45, 4, 13, [(3237, 0)]), none, none, some (.iload_n 1, 1, 0, []), some (.iconst 3, 3, 0, []), some (.iadd, 0, 0, []), some (.aload_n 0, 0, 0, []), some (.iconst 0, 0, 0, []), some (.bipush 7, 7, 0, []), none, some (.invokevirtual 288, 202, 3, [(5167, 4), (0, 0)]), none, none, some (.iastore, 0, 0, []), some (.goto 8, 146, 0, []), none, none, some (.aload_n 0, 0, 0, []), some (.iconst 0, 0, 0, []), some (.invokevirtual 272, 201, 2, [(5158, 4), (1, 0)]), none, none, some (.aload_n 0, 0, 0, []), some (.dup, 0, 0, []), some (.getfield 300, 4, 14, [(3238, 0)]), none, none, some (.iconst 1, 1, 0, []), some (.iadd, 0, 0, []), some (.putfield 300, 4, 14, [(3238, 0)]), none, none, some (.return_, 0, 0, [])]
noncomputable def E_X5_readItem : ts_E := fun z => if z = 200 then F_X5_isWord else if z = 204 then F_X5_readSill else if z = 205 then F_X5_readPerson else if z = 203 then F_X5_takesWord else if z = 202 then F_X5_number else if z = 201 then F_X5_must else fun _ _ => none
noncomputable def F_X5_readItem : List ts_V → ts_S → Option ts_A := ts_Fn E_X5_readItem tb_X5_readItem 4
set_option maxRecDepth 20000 in
theorem ok_X5_readItem : ts_tbo 7 ts_mi [200, 204, 205, 203, 202, 201] (ts_mi 206).1.cls (ts_mi 206).2.2.2.1 (ts_mi 206).2.1 0 tb_X5_readItem = true := by decide +kernel
theorem con_X5_readItem {X : ts_X} {l : Launch} (hJ : ts_J X l) : ts_Met X l (ts_mi 206) 7 F_X5_readItem := ts_con (ts_mi 206) 7 (E := E_X5_readItem) (mi := ts_mi) (cs := [200, 204, 205, 203, 202, 201]) (tb := tb_X5_readItem) (plainFor_of_name (by decide +kernel)) hJ.1 (List.forall_mem_cons.mpr ⟨⟨mw_200, 4, by decide, con_X5_isWord hJ⟩, List.forall_mem_cons.mpr ⟨⟨mw_204, 6, by decide, con_X5_readSill hJ⟩, List.forall_mem_cons.mpr ⟨⟨mw_205, 6, by decide, con_X5_readPerson hJ⟩, List.forall_mem_cons.mpr ⟨⟨mw_203, 5, by decide, con_X5_takesWord hJ⟩, List.forall_mem_cons.mpr ⟨⟨mw_202, 3, by decide, con_X5_number hJ⟩, List.forall_mem_cons.mpr ⟨⟨mw_201, 2, by decide, con_X5_must hJ⟩, fun _ h => absurd h List.not_mem_nil⟩⟩⟩⟩⟩⟩) ok_X5_readItem
def tb_X5_isToldSo : List (Option ts_I) := [some (.aload_n 0, 0, 0, []), some (.getfield 45, 4, 13, [(3237, 0)]), none, none, some (.iload_n 1, 1, 0, []), some (.iconst 1, 1, 0, []), some (.iadd, 0, 0, []), some (.iaload, 0, 0, []), some (.istore_n 2, 2, 0, []), some (.aload_n 0, 0, 0, []), some (.getfield 45, 4, 13, [(3237, 0)]), none, none, some (.iload_n 1, 1, 0, []), some (.iconst 2, 2, 0, []), some (.iadd, 0, 0, []), some (.iaload, 0, 0, []), some (.istore_n 3, 3, 0, []), some (.iconst 0, 0, 0, []), some (.istore 4, 4, 0, []), none, some (.aload_n 0, 0, 0, []), some (.getfield 45, 4, 13, [(3237, 0)]), none, none, some (.iload_n 1, 1, 0, []), some (.iaload, 0, 0, []), some (.lookupswitch 71 #[(10, 25), (11, 47)], 98, 25, [(10, 52), (11, 74)]), none, none, none, none, none, none, none, none, none, none, none, none, none, none, none, none, none, none, none, none, none, none, none, none, some (.aload_n 0, 0, 0, []), some (.iload_n 2, 2, 0, []), some (.invokevirtual 98, 138, 2, [(4093, 4), (0, 0)]), none, none, some (.istore 4, 4, 0, []), none, some (.aload_n 0, 0, 0, []), some (.getfield 9, 4, 0, [(3224, 0)]), none, none, some (.iload 4, 4, 0, []), none, some (.iconst 1, 1, 0, []), some (.invokestatic 85, 132, 2, [(4097, 9), (0, 0)]), none, none, some (.iload_n 3, 3, 0, []), some (.iastore, 0, 0, []), some (.goto 84, 155, 0, []), none, none, some (.aload_n 0, 0, 0, []), some (.getfield 9, 4, 0, [(3224, 0)]), none, none, some (.iconst 5, 5, 0, []), some (.iload_n 2, 2, 0, []), some (.iadd, 0, 0, []), some (.bipush 10, 10, 0, []), none, some (.iload_n 3, 3, 0, []), some (.imul, 0, 0, []), some (.aload_n 0, 0, 0, []), some (.getfield 45, 4, 13, [(3237, 0)]), none, none, some (.iload_n 1, 1, 0, []), some (.iconst 3, 3, 0, []), some (.iadd, 0, 0, []), some (.iaload, 0, 0, []), some (.iadd, 0, 0, []), some (.iastore, 0, 0, []), some (.goto 60, 155, 0, []), none, none, some (.aload_n 0, 0, 0, []), some (.aload_n 0, 0, 0, []), some (.getfield 45, 4, 13, [(3237, 0)]), none, none, some (.iload_n 1, 1, 0, []), some (.iaload, 0, 0, []), some (.invokevirtual 92, 136, 2, [(4079, 4), (0, 0)]), none, none, some (.istore 4, 4, 0, []), none, some (.aload_n 0, 0, 0, []), some (.getfield 9, 4, 0, [(3224, 0)]), none, none, some (.iload 4, 4, 0, []), none, some (.iconst 2, 2, 0, []), some (.invokestatic 82, 129, 2, [(4083, 9), (0, 0)]), none, none, some (.iload_n 2, 2, 0, []), some (.iastore, 0, 0, []), some (.iconst 0, 0, 0, []), some (.istore 5, 5, 0, []), none, some (.iload 5, 5, 0, []), none, some (.iload_n 3, 3, 0, []), some (.if_icmp .ge 27, 155, 0, []), none, none, some (.aload_n 0, 0, 0, []), some (.iload 4, 4, 0, []), none, some (.aload_n 0, 0, 0, []), some (.getfield 45, 4, 13, [(3237, 0)]), none, none, some (.iload_n 1, 1, 0, []), some (.iconst 3, 3, 0, []), some (.iadd, 0, 0, []), some (.iload 5, 5, 0, []), none, some (.iadd, 0, 0, []), some (.iaload, 0, 0, []), some (.invokevirtual 131, 151, 3, [(4148, 4), (0, 0)]), none, none, some (.pop, 0, 0, []), some (.iinc 5 1, 5, 1, []), none, none, some (.goto (-27), 125, 0, []), none, none, some (.return_, 0, 0, [])]
noncomputable def E_X5_isToldSo : ts_E := fun z => if z = 138 then F_X5_onePersonMore else if z = 132 then F_X5_personAt else if z = 136 then F_X5_comes else if z = 129 then F_X5_sillAt else if z = 151 then F_X5_lays else fun _ _ => none
noncomputable def F_X5_isToldSo : List ts_V → ts_S → Option ts_A := ts_Fn E_X5_isToldSo tb_X5_isToldSo 6
set_option maxRecDepth 20000 in
theorem ok_X5_isToldSo : ts_tbo 3 ts_mi [138, 132, 136, 129, 151] (ts_mi 207).1.cls (ts_mi 207).2.2.2.1 (ts_mi 207).2.1 0 tb_X5_isToldSo = true := by decide +kernel
theorem con_X5_isToldSo {X : ts_X} {l : Launch} (hJ : ts_J X l) : ts_Met X l (ts_mi 207) 3 F_X5_isToldSo := ts_con (ts_mi 207) 3 (E := E_X5_isToldSo) (mi := ts_mi) (cs := [138, 132, 136, 129, 151]) (tb := tb_X5_isToldSo) (plainFor_of_name (by decide +kernel)) hJ.1 (List.forall_mem_cons.mpr ⟨⟨mw_138, 1, by decide, con_X5_onePersonMore hJ⟩, List.forall_mem_cons.mpr ⟨⟨mw_132, 0, by decide, con_X5_personAt hJ⟩, List.forall_mem_cons.mpr ⟨⟨mw_136, 1, by decide, con_X5_comes hJ⟩, List.forall_mem_cons.mpr ⟨⟨mw_129, 0, by decide, con_X5_sillAt hJ⟩, List.forall_mem_cons.mpr ⟨⟨mw_151, 2, by decide, con_X5_lays hJ⟩, fun _ h => absurd h List.not_mem_nil⟩⟩⟩⟩⟩) ok_X5_isToldSo
def tb_X5_text : List (Option ts_I) := [some (.aload_n 0, 0, 0, []), some (.iconst 0, 0, 0, []), some (.putfield 243, 4, 8, [(3232, 0)]), none, none, some (.aload_n 0, 0, 0, []), some (.iconst 0, 0, 0, []), some (.putfield 265, 4, 11, [(3235, 1)]), none, none, some (.aload_n 0, 0, 0, []), some (.iconst 0, 0, 0, []), some (.putfield 300, 4, 14, [(3238, 0)]), none, none, some (.aload_n 0, 0, 0, []), some (.aload_n 0, 0, 0, []), some (.getfield 9, 4, 0, [(3224, 0)]), none, none, some (.iconst 1, 1, 0, []), some (.iaload, 0, 0, []), some (.putfield 280, 4, 15, [(3239, 0)]), none, none, some (.aload_n 0, 0, 0, []), some (.aload_n 0, 0, 0, []), some (.getfield 9, 4, 0, [(3224, 0)]), none, none, some (.iconst 3, 3, 0, []), some (.iaload, 0, 0, []), some (.putfield 293, 4, 16, [(4000, 0)]), none, none, some (.aload_n 0, 0, 0, []), some (.invokevirtual 269, 199, 1, [(5136, 4), (1, 0)]), none, none, some (.aload_n 0, 0, 0, []), some (.invokevirtual 314, 206, 1, [(5144, 4), (1, 0)]), none, none, some (.aload_n 0, 0, 0, []), some (.getfield 265, 4, 11, [(3235, 1)]), none, none, some (.ifCond .ne 37, 84, 0, []), none, none, some (.aload_n 0, 0, 0, []), some (.getfield 255, 4, 9, [(3233, 0)]), none, none, some (.iconst 3, 3, 0, []), some (.if_icmp .ne 29, 84, 0, []), none, none, some (.aload_n 0, 0, 0, []), some (.getfield 22, 4, 5, [(3229, 0)]), none, none, some (.aload_n 0, 0, 0, []), some (.getfield 246, 4, 7, [(3231, 0)]), none, none, some (.iaload, 0, 0, []), some (.bipush 59, 59, 0, []), none, some (.if_icmp .ne 15, 84, 0, []), none, none, some (.aload_n 0, 0, 0, []), some (.iconst 1, 1, 0, []), some (.invokevirtual 272, 201, 2, [(5158, 4), (1, 0)]), none, none, some (.aload_n 0, 0, 0, []), some (.invokevirtual 314, 206, 1, [(5144, 4), (1, 0)]), none, none, some (.goto (-38), 43, 0, []), none, none, some (.aload_n 0, 0, 0, []), some (.aload_n 0, 0, 0, []), some (.getfield 255, 4, 9, [(3233, 0)]), none, none, some (.ifCond .ne 7, 96, 0, []), none, none, some (.iconst 1, 1, 0, []), some (.goto 4, 97, 0, []), none, none, some (.iconst 0, 0, 0, []), some (.invokevirtual 272, 201, 2, [(5158, 4), (1, 0)]), none, none, some (.aload_n 0, 0, 0, []), some (.iconst 0, 0, 0, []), some (.putfield 239, 4, 6, [(3230, 0)]), none, none, some (.aload_n 0, 0, 0, []), some (.getfield 265, 4, 11, [(3235, 1)]), none, none, some (.ifCond .eq 10, 119, 0, []), none, none, some (.iconst (-1), 4294967295, 0, []), some (.aload_n 0, 0, 0, []), some (.getfield 246, 4, 7, [(3231, 0)]), none, none, some (.isub, 0, 0, []), some (.ireturn, 0, 0, []), some (.iconst 0, 0, 0, []), some (.istore_n 1, 1, 0, []), some (.iload_n 1, 1, 0, []), some (.aload_n 0, 0, 0, []), some (.getfield 300, 4, 14, [(3238, 0)]), none, none, some (.if_icmp .ge 17, 143, 0, []), none, none, some (.aload_n 0, 0, 0, []), some (.bipush 8, 8, 0, []), none, some (.iload_n 1, 1, 0, []), some (.imul, 0, 0, []), some (.invokevirtual 317, 207, 2, [(5180, 4), (1, 0)]), none, none, some (.iinc 1 1, 1, 1, []), none, none, some (.goto (-19), 121, 0, []), none, none, some (.aload_n 0, 0, 0, []), some (.getfield 300, 4, 14, [(3238, 0)]), none, none, some (.ireturn, 0, 0, [])]
noncomputable def E_X5_text : ts_E := fun z => if z = 199 then F_X5_token else if z = 206 then F_X5_readItem else if z = 201 then F_X5_must else if z = 207 then F_X5_isToldSo else fun _ _ => none
noncomputable def F_X5_text : List ts_V → ts_S → Option ts_A := ts_Fn E_X5_text tb_X5_text 2
set_option maxRecDepth 20000 in
theorem ok_X5_text : ts_tbo 8 ts_mi [199, 206, 201, 207] (ts_mi 208).1.cls (ts_mi 208).2.2.2.1 (ts_mi 208).2.1 0 tb_X5_text = true := by decide +kernel
theorem con_X5_text {X : ts_X} {l : Launch} (hJ : ts_J X l) : ts_Met X l (ts_mi 208) 8 F_X5_text := ts_con (ts_mi 208) 8 (E := E_X5_text) (mi := ts_mi) (cs := [199, 206, 201, 207]) (tb := tb_X5_text) (plainFor_of_name (by decide +kernel)) hJ.1 (List.forall_mem_cons.mpr ⟨⟨mw_199, 1, by decide, con_X5_token hJ⟩, List.forall_mem_cons.mpr ⟨⟨mw_206, 7, by decide, con_X5_readItem hJ⟩, List.forall_mem_cons.mpr ⟨⟨mw_201, 2, by decide, con_X5_must hJ⟩, List.forall_mem_cons.mpr ⟨⟨mw_207, 3, by decide, con_X5_isToldSo hJ⟩, fun _ h => absurd h List.not_mem_nil⟩⟩⟩⟩) ok_X5_text
def tb_X5_isSpot : List (Option ts_I) := [some (.iload_n 0, 0, 0, []), some (.iconst 0, 0, 0, []), some (.bipush 9, 9, 0, []), none, some (.invokestatic 70, 117, 3, [(4055, 9), (0, 0)]), none, none, some (.ireturn, 1, 0, [])]
noncomputable def E_X5_isSpot : ts_E := fun z => if z = 117 then F_X5_within else fun _ _ => none
noncomputable def F_X5_isSpot : List ts_V → ts_S → Option ts_A := ts_Fn E_X5_isSpot tb_X5_isSpot 1
set_option maxRecDepth 20000 in
theorem ok_X5_isSpot : ts_tbo 1 ts_mi [117] (ts_mi 209).1.cls (ts_mi 209).2.2.2.1 (ts_mi 209).2.1 0 tb_X5_isSpot = true := by decide +kernel
theorem con_X5_isSpot {X : ts_X} {l : Launch} (hJ : ts_J X l) : ts_Met X l (ts_mi 209) 1 F_X5_isSpot := ts_con (ts_mi 209) 1 (E := E_X5_isSpot) (mi := ts_mi) (cs := [117]) (tb := tb_X5_isSpot) (plainFor_of_name (by decide +kernel)) hJ.1 (List.forall_mem_cons.mpr ⟨⟨mw_117, 0, by decide, con_X5_within hJ⟩, fun _ h => absurd h List.not_mem_nil⟩) ok_X5_isSpot
def tb_X5_hold : List (Option ts_I) := [some (.iload_n 1, 1, 0, []), some (.invokestatic 320, 209, 1, [(5188, 9), (0, 0)]), none, none, some (.ifCond .eq 16, 20, 0, []), none, none, some (.iload_n 2, 2, 0, []), some (.iconst (-1), 4294967295, 0, []), some (.if_icmp .eq 18, 27, 0, []), none, none, some (.aload_n 0, 0, 0, []), some (.iload_n 2, 2, 0, []), some (.invokevirtual 122, 131, 2, [(4104, 4), (0, 0)]), none, none, some (.ifCond .ne 10, 27, 0, []), none, none, some (.aload_n 0, 0, 0, []), some (.ldc 60, 4293967295, 0, [(4062, 0)]), none, some (.invokevirtual 66, 116, 2, [(4063, 4), (0, 0)]), none, none, some (.ireturn, 0, 0, []), some (.aload_n 0, 0, 0, []), some (.getfield 9, 4, 0, [(3224, 0)]), none, none, some (.bipush 11, 11, 0, []), none, some (.iload_n 1, 1, 0, []), some (.iadd, 0, 0, []), some (.iload_n 2, 2, 0, []), some (.iastore, 0, 0, []), some (.iconst 1, 1, 0, []), some (.ireturn, 0, 0, [])]
noncomputable def E_X5_hold : ts_E := fun z => if z = 209 then F_X5_isSpot else if z = 131 then F_X5_isSill else if z = 116 then F_X5_finding else fun _ _ => none
noncomputable def F_X5_hold : List ts_V → ts_S → Option ts_A := ts_Fn E_X5_hold tb_X5_hold 3
set_option maxRecDepth 20000 in
theorem ok_X5_hold : ts_tbo 2 ts_mi [209, 131, 116] (ts_mi 210).1.cls (ts_mi 210).2.2.2.1 (ts_mi 210).2.1 0 tb_X5_hold = true := by decide +kernel
theorem con_X5_hold {X : ts_X} {l : Launch} (hJ : ts_J X l) : ts_Met X l (ts_mi 210) 2 F_X5_hold := ts_con (ts_mi 210) 2 (E := E_X5_hold) (mi := ts_mi) (cs := [209, 131, 116]) (tb := tb_X5_hold) (plainFor_of_name (by decide +kernel)) hJ.1 (List.forall_mem_cons.mpr ⟨⟨mw_209, 1, by decide, con_X5_isSpot hJ⟩, List.forall_mem_cons.mpr ⟨⟨mw_131, 1, by decide, con_X5_isSill hJ⟩, List.forall_mem_cons.mpr ⟨⟨mw_116, 0, by decide, con_X5_finding hJ⟩, fun _ h => absurd h List.not_mem_nil⟩⟩⟩) ok_X5_hold
def tb_X5_above : List (Option ts_I) := [some (.iload_n 0, 0, 0, []), some (.ifCond .ne 7, 8, 0, []), none, none, some (.iconst (-1), 4294967295, 0, []), some (.goto 32, 37, 0, []), none, none, some (.iload_n 0, 0, 0, []), some (.iconst 3, 3, 0, []), some (.if_icmp .ne 7, 17, 0, []), none, none, some (.iconst 2, 2, 0, []), some (.goto 23, 37, 0, []), none, none, some (.iload_n 0, 0, 0, []), some (.iconst 4, 4, 0, []), some (.if_icmp .ne 7, 26, 0, []), none, none, some (.iconst 3, 3, 0, []), some (.goto 14, 37, 0, []), none, none, some (.iload_n 0, 0, 0, []), some (.bipush 6, 6, 0, []), none, some (.if_icmp .ne 7, 36, 0, []), none, none, some (.iconst 1, 1, 0, []), some (.goto 4, 37, 0, []), none, none, some (.iconst 0, 0, 0, []), some (.ireturn, 0, 0, [])]
noncomputable def E_X5_above : ts_E := fun _ _ _ => none
noncomputable def F_X5_above : List ts_V → ts_S → Option ts_A := ts_Fn E_X5_above tb_X5_above 1
set_option maxRecDepth 20000 in
theorem ok_X5_above : ts_tbo 0 ts_mi [] (ts_mi 211).1.cls (ts_mi 211).2.2.2.1 (ts_mi 211).2.1 0 tb_X5_above = true := by decide +kernel
theorem con_X5_above {X : ts_X} {l : Launch} (hJ : ts_J X l) : ts_Met X l (ts_mi 211) 0 F_X5_above := ts_con (ts_mi 211) 0 (E := E_X5_above) (mi := ts_mi) (cs := []) (tb := tb_X5_above) (plainFor_of_name (by decide +kernel)) hJ.1 (fun _ h => absurd h List.not_mem_nil) ok_X5_above
def tb_X5_isUnder : List (Option ts_I) := [some (.iload_n 0, 0, 0, []), some (.istore_n 2, 2, 0, []), some (.iload_n 2, 2, 0, []), some (.ifCond .lt 16, 19, 0, []), none, none, some (.iload_n 2, 2, 0, []), some (.iload_n 1, 1, 0, []), some (.if_icmp .eq 11, 19, 0, []), none, none, some (.iload_n 2, 2, 0, []), some (.invokestatic 331, 211, 1, [(5198, 9), (0, 0)]), none, none, some (.istore_n 2, 2, 0, []), some (.goto (-14), 2, 0, []), none, none, some (.iload_n 2, 2, 0, []), some (.ifCond .lt 7, 27, 0, []), none, none, some (.iconst 1, 1, 0, []), some (.goto 4, 28, 0, []), none, none, some (.iconst 0, 0, 0, []), some (.ireturn, 1, 0, [])]
noncomputable def E_X5_isUnder : ts_E := fun z => if z = 211 then F_X5_above else fun _ _ => none
noncomputable def F_X5_isUnder : List ts_V → ts_S → Option ts_A := ts_Fn E_X5_isUnder tb_X5_isUnder 3
set_option maxRecDepth 20000 in
theorem ok_X5_isUnder : ts_tbo 1 ts_mi [211] (ts_mi 212).1.cls (ts_mi 212).2.2.2.1 (ts_mi 212).2.1 0 tb_X5_isUnder = true := by decide +kernel
theorem con_X5_isUnder {X : ts_X} {l : Launch} (hJ : ts_J X l) : ts_Met X l (ts_mi 212) 1 F_X5_isUnder := ts_con (ts_mi 212) 1 (E := E_X5_isUnder) (mi := ts_mi) (cs := [211]) (tb := tb_X5_isUnder) (plainFor_of_name (by decide +kernel)) hJ.1 (List.forall_mem_cons.mpr ⟨⟨mw_211, 0, by decide, con_X5_above hJ⟩, fun _ h => absurd h List.not_mem_nil⟩) ok_X5_isUnder
def tb_X5_as : List (Option ts_I) := [some (.iload_n 1, 1, 0, []), some (.invokestatic 320, 209, 1, [(5188, 9), (0, 0)]), none, none, some (.ifCond .eq 10, 14, 0, []), none, none, some (.iload_n 2, 2, 0, []), some (.invokestatic 88, 135, 1, [(4075, 9), (0, 0)]), none, none, some (.ifCond .ne 10, 21, 0, []), none, none, some (.aload_n 0, 0, 0, []), some (.ldc 60, 4293967295, 0, [(4062, 0)]), none, some (.invokevirtual 66, 116, 2, [(4063, 4), (0, 0)]), none, none, some (.ireturn, 0, 0, []), some (.aload_n 0, 0, 0, []), some (.getfield 9, 4, 0, [(3224, 0)]), none, none, some (.bipush 11, 11, 0, []), none, some (.iload_n 1, 1, 0, []), some (.iadd, 0, 0, []), some (.iaload, 0, 0, []), some (.istore_n 3, 3, 0, []), some (.iload_n 3, 3, 0, []), some (.ifCond .ge 10, 42, 0, []), none, none, some (.aload_n 0, 0, 0, []), some (.ldc 227, 4293967290, 0, [(5098, 0)]), none, some (.invokevirtual 66, 116, 2, [(4063, 4), (0, 0)]), none, none, some (.ireturn, 0, 0, []), some (.aload_n 0, 0, 0, []), some (.iload_n 3, 3, 0, []), some (.iconst 0, 0, 0, []), some (.invokevirtual 101, 130, 3, [(4112, 4), (0, 0)]), none, none, some (.iload_n 2, 2, 0, []), some (.invokestatic 323, 212, 2, [(5195, 9), (0, 0)]), none, none, some (.ifCond .eq 7, 59, 0, []), none, none, some (.iload_n 3, 3, 0, []), some (.goto 10, 66, 0, []), none, none, some (.aload_n 0, 0, 0, []), some (.ldc_w 326, 4293967293, 0, [(5201, 0)]), none, none, some (.invokevirtual 66, 116, 2, [(4063, 4), (0, 0)]), none, none, some (.ireturn, 0, 0, [])]
noncomputable def E_X5_as : ts_E := fun z => if z = 209 then F_X5_isSpot else if z = 135 then F_X5_isKind else if z = 116 then F_X5_finding else if z = 130 then F_X5_sillIs else if z = 212 then F_X5_isUnder else fun _ _ => none
noncomputable def F_X5_as : List ts_V → ts_S → Option ts_A := ts_Fn E_X5_as tb_X5_as 4
set_option maxRecDepth 20000 in
theorem ok_X5_as : ts_tbo 2 ts_mi [209, 135, 116, 130, 212] (ts_mi 213).1.cls (ts_mi 213).2.2.2.1 (ts_mi 213).2.1 0 tb_X5_as = true := by decide +kernel
theorem con_X5_as {X : ts_X} {l : Launch} (hJ : ts_J X l) : ts_Met X l (ts_mi 213) 2 F_X5_as := ts_con (ts_mi 213) 2 (E := E_X5_as) (mi := ts_mi) (cs := [209, 135, 116, 130, 212]) (tb := tb_X5_as) (plainFor_of_name (by decide +kernel)) hJ.1 (List.forall_mem_cons.mpr ⟨⟨mw_209, 1, by decide, con_X5_isSpot hJ⟩, List.forall_mem_cons.mpr ⟨⟨mw_135, 1, by decide, con_X5_isKind hJ⟩, List.forall_mem_cons.mpr ⟨⟨mw_116, 0, by decide, con_X5_finding hJ⟩, List.forall_mem_cons.mpr ⟨⟨mw_130, 1, by decide, con_X5_sillIs hJ⟩, List.forall_mem_cons.mpr ⟨⟨mw_212, 1, by decide, con_X5_isUnder hJ⟩, fun _ h => absurd h List.not_mem_nil⟩⟩⟩⟩⟩) ok_X5_as
def tb_X5_cutTo : List (Option ts_I) := [some (.iload_n 1, 1, 0, []), some (.bipush 8, 8, 0, []), none, some (.if_icmp .ne 8, 11, 0, []), none, none, some (.iload_n 0, 0, 0, []), some (.i2b, 0, 0, []), some (.goto 15, 23, 0, []), none, none, some (.iload_n 1, 1, 0, []), some (.bipush 16, 16, 0, []), none, some (.if_icmp .ne 8, 22, 0, []), none, none, some (.iload_n 0, 0, 0, []), some (.i2s, 0, 0, []), some (.goto 4, 23, 0, []), none, none, some (.iload_n 0, 0, 0, []), some (.ireturn, 0, 0, [])]
noncomputable def E_X5_cutTo : ts_E := fun _ _ _ => none
noncomputable def F_X5_cutTo : List ts_V → ts_S → Option ts_A := ts_Fn E_X5_cutTo tb_X5_cutTo 2
set_option maxRecDepth 20000 in
theorem ok_X5_cutTo : ts_tbo 0 ts_mi [] (ts_mi 214).1.cls (ts_mi 214).2.2.2.1 (ts_mi 214).2.1 0 tb_X5_cutTo = true := by decide +kernel
theorem con_X5_cutTo {X : ts_X} {l : Launch} (hJ : ts_J X l) : ts_Met X l (ts_mi 214) 0 F_X5_cutTo := ts_con (ts_mi 214) 0 (E := E_X5_cutTo) (mi := ts_mi) (cs := []) (tb := tb_X5_cutTo) (plainFor_of_name (by decide +kernel)) hJ.1 (fun _ h => absurd h List.not_mem_nil) ok_X5_cutTo
def tb_X5_sheet : List (Option ts_I) := [some (.iload_n 1, 1, 0, []), some (.invokestatic 224, 187, 1, [(5095, 9), (0, 0)]), none, none, some (.ifCond .eq 25, 29, 0, []), none, none, some (.iload_n 2, 2, 0, []), some (.ifCond .eq 28, 36, 0, []), none, none, some (.iload_n 2, 2, 0, []), some (.bipush 8, 8, 0, []), none, some (.if_icmp .eq 22, 36, 0, []), none, none, some (.iload_n 2, 2, 0, []), some (.bipush 16, 16, 0, []), none, some (.if_icmp .eq 16, 36, 0, []), none, none, some (.iload_n 2, 2, 0, []), some (.bipush 32, 32, 0, []), none, some (.if_icmp .eq 10, 36, 0, []), none, none, some (.aload_n 0, 0, 0, []), some (.ldc 60, 4293967295, 0, [(4062, 0)]), none, some (.invokevirtual 66, 116, 2, [(4063, 4), (0, 0)]), none, none, some (.ireturn, 0, 0, []), some (.iload_n 3, 3, 0, []), some (.ifCond .ge 11, 48, 0, []), none, none, some (.aload_n 0, 0, 0, []), some (.ldc_w 327, 4293967289, 0, [(5206, 0)]), none, none, some (.invokevirtual 66, 116, 2, [(4063, 4), (0, 0)]), none, none, some (.ireturn, 0, 0, []), some (.iload_n 3, 3, 0, []), some (.bipush 40, 40, 0, []), none, some (.if_icmp .le 10, 61, 0, []), none, none, some (.aload_n 0, 0, 0, []), some (.ldc 60, 4293967295, 0, [(4062, 0)]), none, some (.invokevirtual 66, 116, 2, [(4063, 4), (0, 0)]), none, none, some (.ireturn, 0, 0, []), some (.aload_n 0, 0, 0, []), some (.getfield 48, 4, 17, [(4001, 0)]), none, none, some (.iload_n 1, 1, 0, []), some (.iload_n 2, 2, 0, []), some (.iastore, 0, 0, []), some (.aload_n 0, 0, 0, []), some (.getfield 51, 4, 18, [(4002, 0)]), none, none, some (.iload_n 1, 1, 0, []), some (.iload_n 2, 2, 0, []), some (.ifCond .ne 7, 81, 0, []), none, none, some (.iconst 0, 0, 0, []), some (.goto 4, 82, 0, []), none, none, some (.iload_n 3, 3, 0, []), some (.iastore, 0, 0, []), some (.iconst 0, 0, 0, []), some (.istore 4, 4, 0, []), none, some (.iload 4, 4, 0, []), none, some (.bipush 40, 40, 0, []), none, some (.if_icmp .ge 22, 112, 0, []), none, none, some (.aload_n 0, 0, 0, []), some (.getfield 54, 4, 19, [(4003, 0)]), none, none, some (.bipush 40, 40, 0, []), none, some (.iload_n 1, 1, 0, []), some (.imul, 0, 0, []), some (.iload 4, 4, 0, []), none, some (.iadd, 0, 0, []), some (.iconst 0, 0, 0, []), some (.iastore, 0, 0, []), some (.iinc 4 1, 4, 1, []), none, none, some (.goto (-23), 86, 0, []), none, none, some (.aload_n 0, 0, 0, []), some (.getfield 51, 4, 18, [(4002, 0)]), none, none, some (.iload_n 1, 1, 0, []), some (.iaload, 0, 0, []), some (.ireturn, 0, 0, [])]
noncomputable def E_X5_sheet : ts_E := fun z => if z = 187 then F_X5_isSheet else if z = 116 then F_X5_finding else fun _ _ => none
noncomputable def F_X5_sheet : List ts_V → ts_S → Option ts_A := ts_Fn E_X5_sheet tb_X5_sheet 5
set_option maxRecDepth 20000 in
theorem ok_X5_sheet : ts_tbo 2 ts_mi [187, 116] (ts_mi 215).1.cls (ts_mi 215).2.2.2.1 (ts_mi 215).2.1 0 tb_X5_sheet = true := by decide +kernel
theorem con_X5_sheet {X : ts_X} {l : Launch} (hJ : ts_J X l) : ts_Met X l (ts_mi 215) 2 F_X5_sheet := ts_con (ts_mi 215) 2 (E := E_X5_sheet) (mi := ts_mi) (cs := [187, 116]) (tb := tb_X5_sheet) (plainFor_of_name (by decide +kernel)) hJ.1 (List.forall_mem_cons.mpr ⟨⟨mw_187, 1, by decide, con_X5_isSheet hJ⟩, List.forall_mem_cons.mpr ⟨⟨mw_116, 0, by decide, con_X5_finding hJ⟩, fun _ h => absurd h List.not_mem_nil⟩⟩) ok_X5_sheet
def tb_X5_write : List (Option ts_I) := [some (.iload_n 1, 1, 0, []), some (.invokestatic 224, 187, 1, [(5095, 9), (0, 0)]), none, none, some (.ifCond .ne 10, 14, 0, []), none, none, some (.aload_n 0, 0, 0, []), some (.ldc 60, 4293967295, 0, [(4062, 0)]), none, some (.invokevirtual 66, 116, 2, [(4063, 4), (0, 0)]), none, none, some (.ireturn, 0, 0, []), some (.aload_n 0, 0, 0, []), some (.getfield 48, 4, 17, [(4001, 0)]), none, none, some (.iload_n 1, 1, 0, []), some (.iaload, 0, 0, []), some (.ifCond .ne 10, 30, 0, []), none, none, some (.aload_n 0, 0, 0, []), some (.ldc 227, 4293967290, 0, [(5098, 0)]), none, some (.invokevirtual 66, 116, 2, [(4063, 4), (0, 0)]), none, none, some (.ireturn, 0, 0, []), some (.iload_n 2, 2, 0, []), some (.iconst 0, 0, 0, []), some (.aload_n 0, 0, 0, []), some (.getfield 51, 4, 18, [(4002, 0)]), none, none, some (.iload_n 1, 1, 0, []), some (.iaload, 0, 0, []), some (.iconst 1, 1, 0, []), some (.isub, 0, 0, []), some (.invokestatic 70, 117, 3, [(4055, 9), (0, 0)]), none, none, some (.ifCond .ne 10, 53, 0, []), none, none, some (.aload_n 0, 0, 0, []), some (.ldc 60, 4293967295, 0, [(4062, 0)]), none, some (.invokevirtual 66, 116, 2, [(4063, 4), (0, 0)]), none, none, some (.ireturn, 0, 0, []), some (.aload_n 0, 0, 0, []), some (.getfield 54, 4, 19, [(4003, 0)]), none, none, some (.bipush 40, 40, 0, []), none, some (.iload_n 1, 1, 0, []), some (.imul, 0, 0, []), some (.iload_n 2, 2, 0, []), some (.iadd, 0, 0, []), some (.iload_n 3, 3, 0, []), some (.aload_n 0, 0, 0, []), some (.getfield 48, 4, 17, [(4001, 0)]), none, none, some (.iload_n 1, 1, 0, []), some (.iaload, 0, 0, []), some (.invokestatic 328, 214, 2, [(5211, 9), (0, 0)]), none, none, some (.iastore, 0, 0, []), some (.iconst 1, 1, 0, []), some (.ireturn, 0, 0, [])]
noncomputable def E_X5_write : ts_E := fun z => if z = 187 then F_X5_isSheet else if z = 116 then F_X5_finding else if z = 117 then F_X5_within else if z = 214 then F_X5_cutTo else fun _ _ => none
noncomputable def F_X5_write : List ts_V → ts_S → Option ts_A := ts_Fn E_X5_write tb_X5_write 4
set_option maxRecDepth 20000 in
theorem ok_X5_write : ts_tbo 2 ts_mi [187, 116, 117, 214] (ts_mi 216).1.cls (ts_mi 216).2.2.2.1 (ts_mi 216).2.1 0 tb_X5_write = true := by decide +kernel
theorem con_X5_write {X : ts_X} {l : Launch} (hJ : ts_J X l) : ts_Met X l (ts_mi 216) 2 F_X5_write := ts_con (ts_mi 216) 2 (E := E_X5_write) (mi := ts_mi) (cs := [187, 116, 117, 214]) (tb := tb_X5_write) (plainFor_of_name (by decide +kernel)) hJ.1 (List.forall_mem_cons.mpr ⟨⟨mw_187, 1, by decide, con_X5_isSheet hJ⟩, List.forall_mem_cons.mpr ⟨⟨mw_116, 0, by decide, con_X5_finding hJ⟩, List.forall_mem_cons.mpr ⟨⟨mw_117, 0, by decide, con_X5_within hJ⟩, List.forall_mem_cons.mpr ⟨⟨mw_214, 0, by decide, con_X5_cutTo hJ⟩, fun _ h => absurd h List.not_mem_nil⟩⟩⟩⟩) ok_X5_write
def tb_X5_copy : List (Option ts_I) := [some (.iload_n 1, 1, 0, []), some (.invokestatic 224, 187, 1, [(5095, 9), (0, 0)]), none, none, some (.ifCond .eq 10, 14, 0, []), none, none, some (.iload_n 3, 3, 0, []), some (.invokestatic 224, 187, 1, [(5095, 9), (0, 0)]), none, none, some (.ifCond .ne 10, 21, 0, []), none, none, some (.aload_n 0, 0, 0, []), some (.ldc 60, 4293967295, 0, [(4062, 0)]), none, some (.invokevirtual 66, 116, 2, [(4063, 4), (0, 0)]), none, none, some (.ireturn, 0, 0, []), some (.aload_n 0, 0, 0, []), some (.getfield 48, 4, 17, [(4001, 0)]), none, none, some (.iload_n 1, 1, 0, []), some (.iaload, 0, 0, []), some (.ifCond .eq 12, 39, 0, []), none, none, some (.aload_n 0, 0, 0, []), some (.getfield 48, 4, 17, [(4001, 0)]), none, none, some (.iload_n 3, 3, 0, []), some (.iaload, 0, 0, []), some (.ifCond .ne 10, 46, 0, []), none, none, some (.aload_n 0, 0, 0, []), some (.ldc 227, 4293967290, 0, [(5098, 0)]), none, some (.invokevirtual 66, 116, 2, [(4063, 4), (0, 0)]), none, none, some (.ireturn, 0, 0, []), some (.aload_n 0, 0, 0, []), some (.getfield 48, 4, 17, [(4001, 0)]), none, none, some (.iload_n 1, 1, 0, []), some (.iaload, 0, 0, []), some (.aload_n 0, 0, 0, []), some (.getfield 48, 4, 17, [(4001, 0)]), none, none, some (.iload_n 3, 3, 0, []), some (.iaload, 0, 0, []), some (.if_icmp .eq 11, 69, 0, []), none, none, some (.aload_n 0, 0, 0, []), some (.ldc_w 326, 4293967293, 0, [(5201, 0)]), none, none, some (.invokevirtual 66, 116, 2, [(4063, 4), (0, 0)]), none, none, some (.ireturn, 0, 0, []), some (.iload_n 2, 2, 0, []), some (.ifCond .lt 48, 118, 0, []), none, none, some (.iload 4, 4, 0, []), none, some (.ifCond .lt 43, 118, 0, []), none, none, some (.iload 5, 5, 0, []), none, some (.ifCond .lt 38, 118, 0, []), none, none, some (.iload_n 2, 2, 0, []), some (.i2l, 0, 0, []), some (.iload 5, 5, 0, []), none, some (.i2l, 0, 0, []), some (.ladd, 0, 0, []), some (.aload_n 0, 0, 0, []), some (.getfield 51, 4, 18, [(4002, 0)]), none, none, some (.iload_n 1, 1, 0, []), some (.iaload, 0, 0, []), some (.i2l, 0, 0, []), some (.lcmp, 0, 0, []), some (.ifCond .gt 21, 118, 0, []), none, none, some (.iload 4, 4, 0, []), none, some (.i2l, 0, 0, []), some (.iload 5, 5, 0, []), none, some (.i2l, 0, 0, []), some (.ladd, 0, 0, []), some (.aload_n 0, 0, 0, []), some (.getfield 51, 4, 18, [(4002, 0)]), none, none, some (.iload_n 3, 3, 0, []), some (.iaload, 0, 0, []), some (.i2l, 0, 0, []), some (.lcmp, 0, 0, []), some (.ifCond .le 10, 125, 0, []), none, none, some (.aload_n 0, 0, 0, []), some (.ldc 60, 4293967295, 0, [(4062, 0)]), none, some (.invokevirtual 66, 116, 2, [(4063, 4), (0, 0)]), none, none, some (.ireturn, 0, 0, []), some (.iconst 0, 0, 0, []), some (.istore 6, 6, 0, []), none, some (.iload 6, 6, 0, []), none, some (.iload 5, 5, 0, []), none, some (.if_icmp .ge 30, 162, 0, []), none, none, some (.aload_n 0, 0, 0, []), some (.getfield 57, 4, 20, [(4004, 0)]), none, none, some (.iload 6, 6, 0, []), none, some (.aload_n 0, 0, 0, []), some (.getfield 54, 4, 19, [(4003, 0)]), none, none, some (.bipush 40, 40, 0, []), none, some (.iload_n 1, 1, 0, []), some (.imul, 0, 0, []), some (.iload_n 2, 2, 0, []), some (.iadd, 0, 0, []), some (.iload 6, 6, 0, []), none, some (.iadd, 0, 0, []), some (.iaload, 0, 0, []), some (.iastore, 0, 0, []), some (.iinc 6 1, 6, 1, []), none, none, some (.goto (-31), 128, 0, []), none, none, some (.iconst 0, 0, 0, []), some (.istore 6, 6, 0, []), none, some (.iload 6, 6, 0, []), none, some (.iload 5, 5, 0, []), none, some (.if_icmp .ge 31, 200, 0, []), none, none, some (.aload_n 0, 0, 0, []), some (.getfield 54, 4, 19, [(4003, 0)]), none, none, some (.bipush 40, 40, 0, []), none, some (.iload_n 3, 3, 0, []), some (.imul, 0, 0, []), some (.iload 4, 4, 0, []), none, some (.iadd, 0, 0, []), some (.iload 6, 6, 0, []), none, some (.iadd, 0, 0, []), some (.aload_n 0, 0, 0, []), some (.getfield 57, 4, 20, [(4004, 0)]), none, none, some (.iload 6, 6, 0, []), none, some (.iaload, 0, 0, []), some (.iastore, 0, 0, []), some (.iinc 6 1, 6, 1, []), none, none, some (.goto (-32), 165, 0, []), none, none, some (.iload 5, 5, 0, []), none, some (.ireturn, 0, 0, [])]
noncomputable def E_X5_copy : ts_E := fun z => if z = 187 then F_X5_isSheet else if z = 116 then F_X5_finding else fun _ _ => none
noncomputable def F_X5_copy : List ts_V → ts_S → Option ts_A := ts_Fn E_X5_copy tb_X5_copy 7
set_option maxRecDepth 20000 in
theorem ok_X5_copy : ts_tbo 2 ts_mi [187, 116] (ts_mi 217).1.cls (ts_mi 217).2.2.2.1 (ts_mi 217).2.1 0 tb_X5_copy = true := by decide +kernel
theorem con_X5_copy {X : ts_X} {l : Launch} (hJ : ts_J X l) : ts_Met X l (ts_mi 217) 2 F_X5_copy := ts_con (ts_mi 217) 2 (E := E_X5_copy) (mi := ts_mi) (cs := [187, 116]) (tb := tb_X5_copy) (plainFor_of_name (by decide +kernel)) hJ.1 (List.forall_mem_cons.mpr ⟨⟨mw_187, 1, by decide, con_X5_isSheet hJ⟩, List.forall_mem_cons.mpr ⟨⟨mw_116, 0, by decide, con_X5_finding hJ⟩, fun _ h => absurd h List.not_mem_nil⟩⟩) ok_X5_copy
def tb_X5_load : List (Option ts_I) := [some (.aload_n 0, 0, 0, []), some (.iload_n 1, 1, 0, []), some (.iconst 1, 1, 0, []), some (.invokevirtual 228, 188, 3, [(5091, 4), (0, 0)]), none, none, some (.ifCond .eq 14, 20, 0, []), none, none, some (.aload_n 0, 0, 0, []), some (.aload_n 0, 0, 0, []), some (.iload_n 1, 1, 0, []), some (.iconst 1, 1, 0, []), some (.invokevirtual 228, 188, 3, [(5091, 4), (0, 0)]), none, none, some (.invokevirtual 66, 116, 2, [(4063, 4), (0, 0)]), none, none, some (.ireturn, 0, 0, []), some (.iconst 0, 0, 0, []), some (.istore_n 2, 2, 0, []), some (.iload_n 2, 2, 0, []), some (.aload_n 0, 0, 0, []), some (.getfield 51, 4, 18, [(4002, 0)]), none, none, some (.iload_n 1, 1, 0, []), some (.iaload, 0, 0, []), some (.if_icmp .ge 55, 84, 0, []), none, none, some (.aload_n 0, 0, 0, []), some (.iload_n 2, 2, 0, []), some (.invokevirtual 134, 134, 2, [(4156, 4), (0, 0)]), none, none, some (.ifCond .eq 47, 84, 0, []), none, none, some (.aload_n 0, 0, 0, []), some (.getfield 54, 4, 19, [(4003, 0)]), none, none, some (.bipush 40, 40, 0, []), none, some (.iload_n 1, 1, 0, []), some (.imul, 0, 0, []), some (.iload_n 2, 2, 0, []), some (.iadd, 0, 0, []), some (.iaload, 0, 0, []), some (.invokestatic 95, 123, 1, [(4090, 9), (0, 0)]), none, none, some (.ifCond .eq 30, 84, 0, []), none, none, some (.aload_n 0, 0, 0, []), some (.getfield 9, 4, 0, [(3224, 0)]), none, none, some (.iload_n 2, 2, 0, []), some (.iconst 0, 0, 0, []), some (.invokestatic 85, 132, 2, [(4097, 9), (0, 0)]), none, none, some (.aload_n 0, 0, 0, []), some (.getfield 54, 4, 19, [(4003, 0)]), none, none, some (.bipush 40, 40, 0, []), none, some (.iload_n 1, 1, 0, []), some (.imul, 0, 0, []), some (.iload_n 2, 2, 0, []), some (.iadd, 0, 0, []), some (.iaload, 0, 0, []), some (.iastore, 0, 0, []), some (.iinc 2 1, 2, 1, []), none, none, some (.goto (-59), 22, 0, []), none, none, some (.iload_n 2, 2, 0, []), some (.ireturn, 0, 0, [])]
noncomputable def E_X5_load : ts_E := fun z => if z = 188 then F_X5_lacks else if z = 116 then F_X5_finding else if z = 134 then F_X5_isPerson else if z = 123 then F_X5_isSet else if z = 132 then F_X5_personAt else fun _ _ => none
noncomputable def F_X5_load : List ts_V → ts_S → Option ts_A := ts_Fn E_X5_load tb_X5_load 3
set_option maxRecDepth 20000 in
theorem ok_X5_load : ts_tbo 3 ts_mi [188, 116, 134, 123, 132] (ts_mi 218).1.cls (ts_mi 218).2.2.2.1 (ts_mi 218).2.1 0 tb_X5_load = true := by decide +kernel
theorem con_X5_load {X : ts_X} {l : Launch} (hJ : ts_J X l) : ts_Met X l (ts_mi 218) 3 F_X5_load := ts_con (ts_mi 218) 3 (E := E_X5_load) (mi := ts_mi) (cs := [188, 116, 134, 123, 132]) (tb := tb_X5_load) (plainFor_of_name (by decide +kernel)) hJ.1 (List.forall_mem_cons.mpr ⟨⟨mw_188, 2, by decide, con_X5_lacks hJ⟩, List.forall_mem_cons.mpr ⟨⟨mw_116, 0, by decide, con_X5_finding hJ⟩, List.forall_mem_cons.mpr ⟨⟨mw_134, 1, by decide, con_X5_isPerson hJ⟩, List.forall_mem_cons.mpr ⟨⟨mw_123, 1, by decide, con_X5_isSet hJ⟩, List.forall_mem_cons.mpr ⟨⟨mw_132, 0, by decide, con_X5_personAt hJ⟩, fun _ h => absurd h List.not_mem_nil⟩⟩⟩⟩⟩) ok_X5_load
def tb_X5_judge : List (Option ts_I) := [some (.aload_n 0, 0, 0, []), some (.iload_n 1, 1, 0, []), some (.iconst 1, 1, 0, []), some (.invokevirtual 228, 188, 3, [(5091, 4), (0, 0)]), none, none, some (.ifCond .eq 14, 20, 0, []), none, none, some (.aload_n 0, 0, 0, []), some (.aload_n 0, 0, 0, []), some (.iload_n 1, 1, 0, []), some (.iconst 1, 1, 0, []), some (.invokevirtual 228, 188, 3, [(5091, 4), (0, 0)]), none, none, some (.invokevirtual 66, 116, 2, [(4063, 4), (0, 0)]), none, none, some (.ireturn, 0, 0, []), some (.aload_n 0, 0, 0, []), some (.getfield 9, 4, 0, [(3224, 0)]), none, none, some (.iconst 1, 1, 0, []), some (.iaload, 0, 0, []), some (.ifCond .ne 7, 33, 0, []), none, none, some (.iconst 0, 0, 0, []), some (.goto 9, 39, 0, []), none, none, some (.aload_n 0, 0, 0, []), some (.iconst 0, 0, 0, []), some (.iconst 3, 3, 0, []), some (.invokevirtual 101, 130, 3, [(4112, 4), (0, 0)]), none, none, some (.istore_n 2, 2, 0, []), some (.iconst 0, 0, 0, []), some (.istore_n 3, 3, 0, []), some (.iload_n 3, 3, 0, []), some (.aload_n 0, 0, 0, []), some (.getfield 51, 4, 18, [(4002, 0)]), none, none, some (.iload_n 1, 1, 0, []), some (.iaload, 0, 0, []), some (.if_icmp .ge 36, 85, 0, []), none, none, some (.iload_n 3, 3, 0, []), some (.iload_n 2, 2, 0, []), some (.if_icmp .ge 31, 85, 0, []), none, none, some (.aload_n 0, 0, 0, []), some (.getfield 54, 4, 19, [(4003, 0)]), none, none, some (.bipush 40, 40, 0, []), none, some (.iload_n 1, 1, 0, []), some (.imul, 0, 0, []), some (.iload_n 3, 3, 0, []), some (.iadd, 0, 0, []), some (.iaload, 0, 0, []), some (.aload_n 0, 0, 0, []), some (.iconst 0, 0, 0, []), some (.iconst 4, 4, 0, []), some (.iload_n 3, 3, 0, []), some (.iadd, 0, 0, []), some (.invokevirtual 101, 130, 3, [(4112, 4), (0, 0)]), none, none, some (.if_icmp .ne 9, 85, 0, []), none, none, some (.iinc 3 1, 3, 1, []), none, none, some (.goto (-40), 42, 0, []), none, none, some (.iload_n 3, 3, 0, []), some (.aload_n 0, 0, 0, []), some (.getfield 51, 4, 18, [(4002, 0)]), none, none, some (.iload_n 1, 1, 0, []), some (.iaload, 0, 0, []), some (.if_icmp .ne 7, 99, 0, []), none, none, some (.iconst 0, 0, 0, []), some (.goto 6, 102, 0, []), none, none, some (.iconst 1, 1, 0, []), some (.iload_n 3, 3, 0, []), some (.iadd, 0, 0, []), some (.ireturn, 0, 0, [])]
noncomputable def E_X5_judge : ts_E := fun z => if z = 188 then F_X5_lacks else if z = 116 then F_X5_finding else if z = 130 then F_X5_sillIs else fun _ _ => none
noncomputable def F_X5_judge : List ts_V → ts_S → Option ts_A := ts_Fn E_X5_judge tb_X5_judge 4
set_option maxRecDepth 20000 in
theorem ok_X5_judge : ts_tbo 3 ts_mi [188, 116, 130] (ts_mi 219).1.cls (ts_mi 219).2.2.2.1 (ts_mi 219).2.1 0 tb_X5_judge = true := by decide +kernel
theorem con_X5_judge {X : ts_X} {l : Launch} (hJ : ts_J X l) : ts_Met X l (ts_mi 219) 3 F_X5_judge := ts_con (ts_mi 219) 3 (E := E_X5_judge) (mi := ts_mi) (cs := [188, 116, 130]) (tb := tb_X5_judge) (plainFor_of_name (by decide +kernel)) hJ.1 (List.forall_mem_cons.mpr ⟨⟨mw_188, 2, by decide, con_X5_lacks hJ⟩, List.forall_mem_cons.mpr ⟨⟨mw_116, 0, by decide, con_X5_finding hJ⟩, List.forall_mem_cons.mpr ⟨⟨mw_130, 1, by decide, con_X5_sillIs hJ⟩, fun _ h => absurd h List.not_mem_nil⟩⟩⟩) ok_X5_judge
def tb_X5_image : List (Option ts_I) := [some (.aload_n 0, 0, 0, []), some (.getfield 9, 4, 0, [(3224, 0)]), none, none, some (.aload_n 0, 0, 0, []), some (.getfield 13, 4, 1, [(3225, 0)]), none, none, some (.invokestatic 61, 119, 2, [(5017, 9), (1, 0)]), none, none, some (.aload_n 0, 0, 0, []), some (.iconst 1, 1, 0, []), some (.putfield 334, 4, 3, [(3227, 1)]), none, none, some (.iconst 1, 1, 0, []), some (.ireturn, 0, 0, [])]
noncomputable def E_X5_image : ts_E := fun z => if z = 119 then F_X5_copyRow else fun _ _ => none
noncomputable def F_X5_image : List ts_V → ts_S → Option ts_A := ts_Fn E_X5_image tb_X5_image 1
set_option maxRecDepth 20000 in
theorem ok_X5_image : ts_tbo 1 ts_mi [119] (ts_mi 220).1.cls (ts_mi 220).2.2.2.1 (ts_mi 220).2.1 0 tb_X5_image = true := by decide +kernel
theorem con_X5_image {X : ts_X} {l : Launch} (hJ : ts_J X l) : ts_Met X l (ts_mi 220) 1 F_X5_image := ts_con (ts_mi 220) 1 (E := E_X5_image) (mi := ts_mi) (cs := [119]) (tb := tb_X5_image) (plainFor_of_name (by decide +kernel)) hJ.1 (List.forall_mem_cons.mpr ⟨⟨mw_119, 0, by decide, con_X5_copyRow hJ⟩, fun _ h => absurd h List.not_mem_nil⟩) ok_X5_image
def tb_X5_undo : List (Option ts_I) := [some (.aload_n 0, 0, 0, []), some (.getfield 334, 4, 3, [(3227, 1)]), none, none, some (.ifCond .ne 10, 14, 0, []), none, none, some (.aload_n 0, 0, 0, []), some (.ldc 65, 4293967292, 0, [(4136, 0)]), none, some (.invokevirtual 66, 116, 2, [(4063, 4), (0, 0)]), none, none, some (.ireturn, 0, 0, []), some (.aload_n 0, 0, 0, []), some (.getfield 13, 4, 1, [(3225, 0)]), none, none, some (.aload_n 0, 0, 0, []), some (.getfield 9, 4, 0, [(3224, 0)]), none, none, some (.invokestatic 61, 119, 2, [(5017, 9), (1, 0)]), none, none, some (.aload_n 0, 0, 0, []), some (.getfield 9, 4, 0, [(3224, 0)]), none, none, some (.iconst 0, 0, 0, []), some (.iaload, 0, 0, []), some (.ireturn, 0, 0, [])]
noncomputable def E_X5_undo : ts_E := fun z => if z = 116 then F_X5_finding else if z = 119 then F_X5_copyRow else fun _ _ => none
noncomputable def F_X5_undo : List ts_V → ts_S → Option ts_A := ts_Fn E_X5_undo tb_X5_undo 1
set_option maxRecDepth 20000 in
theorem ok_X5_undo : ts_tbo 1 ts_mi [116, 119] (ts_mi 221).1.cls (ts_mi 221).2.2.2.1 (ts_mi 221).2.1 0 tb_X5_undo = true := by decide +kernel
theorem con_X5_undo {X : ts_X} {l : Launch} (hJ : ts_J X l) : ts_Met X l (ts_mi 221) 1 F_X5_undo := ts_con (ts_mi 221) 1 (E := E_X5_undo) (mi := ts_mi) (cs := [116, 119]) (tb := tb_X5_undo) (plainFor_of_name (by decide +kernel)) hJ.1 (List.forall_mem_cons.mpr ⟨⟨mw_116, 0, by decide, con_X5_finding hJ⟩, List.forall_mem_cons.mpr ⟨⟨mw_119, 0, by decide, con_X5_copyRow hJ⟩, fun _ h => absurd h List.not_mem_nil⟩⟩) ok_X5_undo
def tb_X5_tear : List (Option ts_I) := [some (.aload_n 0, 0, 0, []), some (.getfield 334, 4, 3, [(3227, 1)]), none, none, some (.ifCond .eq 7, 11, 0, []), none, none, some (.iconst 1, 1, 0, []), some (.goto 4, 12, 0, []), none, none, some (.iconst 0, 0, 0, []), some (.istore_n 1, 1, 0, []), some (.aload_n 0, 0, 0, []), some (.iconst 0, 0, 0, []), some (.putfield 334, 4, 3, [(3227, 1)]), none, none, some (.iload_n 1, 1, 0, []), some (.ireturn, 0, 0, [])]
noncomputable def E_X5_tear : ts_E := fun _ _ _ => none
noncomputable def F_X5_tear : List ts_V → ts_S → Option ts_A := ts_Fn E_X5_tear tb_X5_tear 2
set_option maxRecDepth 20000 in
theorem ok_X5_tear : ts_tbo 0 ts_mi [] (ts_mi 222).1.cls (ts_mi 222).2.2.2.1 (ts_mi 222).2.1 0 tb_X5_tear = true := by decide +kernel
theorem con_X5_tear {X : ts_X} {l : Launch} (hJ : ts_J X l) : ts_Met X l (ts_mi 222) 0 F_X5_tear := ts_con (ts_mi 222) 0 (E := E_X5_tear) (mi := ts_mi) (cs := []) (tb := tb_X5_tear) (plainFor_of_name (by decide +kernel)) hJ.1 (fun _ h => absurd h List.not_mem_nil) ok_X5_tear
def tb_X5_count : List (Option ts_I) := [some (.iconst 0, 0, 0, []), some (.istore_n 2, 2, 0, []), some (.iload_n 1, 1, 0, []), some (.tableswitch 127 0 7 #[45, 52, 59, 66, 73, 79, 84, 91], 130, 45, [(0, 48), (1, 55), (2, 62), (3, 69), (4, 76), (5, 82), (6, 87), (7, 94)]), none, none, none, none, none, none, none, none, none, none, none, none, none, none, none, none, none, none, none, none, none, none, none, none, none, none, none, none, none, none, none, none, none, none, none, none, none, none, none, none, none, none, none, none, some (.aload_n 0, 0, 0, []), some (.getfield 9, 4, 0, [(3224, 0)]), none, none, some (.iconst 0, 0, 0, []), some (.iaload, 0, 0, []), some (.ireturn, 0, 0, []), some (.aload_n 0, 0, 0, []), some (.getfield 9, 4, 0, [(3224, 0)]), none, none, some (.iconst 1, 1, 0, []), some (.iaload, 0, 0, []), some (.ireturn, 0, 0, []), some (.aload_n 0, 0, 0, []), some (.getfield 9, 4, 0, [(3224, 0)]), none, none, some (.iconst 3, 3, 0, []), some (.iaload, 0, 0, []), some (.ireturn, 0, 0, []), some (.aload_n 0, 0, 0, []), some (.getfield 9, 4, 0, [(3224, 0)]), none, none, some (.iconst 4, 4, 0, []), some (.iaload, 0, 0, []), some (.ireturn, 0, 0, []), some (.aload_n 0, 0, 0, []), some (.iconst 3, 3, 0, []), some (.invokevirtual 193, 165, 2, [(5009, 4), (0, 0)]), none, none, some (.ireturn, 0, 0, []), some (.aload_n 0, 0, 0, []), some (.getfield 239, 4, 6, [(3230, 0)]), none, none, some (.ireturn, 0, 0, []), some (.aload_n 0, 0, 0, []), some (.getfield 9, 4, 0, [(3224, 0)]), none, none, some (.iconst 2, 2, 0, []), some (.iaload, 0, 0, []), some (.ireturn, 0, 0, []), some (.iconst 0, 0, 0, []), some (.istore_n 3, 3, 0, []), some (.iload_n 3, 3, 0, []), some (.bipush 10, 10, 0, []), none, some (.if_icmp .ge 29, 128, 0, []), none, none, some (.iload_n 2, 2, 0, []), some (.aload_n 0, 0, 0, []), some (.getfield 9, 4, 0, [(3224, 0)]), none, none, some (.bipush 11, 11, 0, []), none, some (.iload_n 3, 3, 0, []), some (.iadd, 0, 0, []), some (.iaload, 0, 0, []), some (.ifCond .ge 7, 119, 0, []), none, none, some (.iconst 0, 0, 0, []), some (.goto 4, 120, 0, []), none, none, some (.iconst 1, 1, 0, []), some (.iadd, 0, 0, []), some (.istore_n 2, 2, 0, []), some (.iinc 3 1, 3, 1, []), none, none, some (.goto (-29), 96, 0, []), none, none, some (.iload_n 2, 2, 0, []), some (.ireturn, 0, 0, []), some (.aload_n 0, 0, 0, []), some (.ldc 60, 4293967295, 0, [(4062, 0)]), none, some (.invokevirtual 66, 116, 2, [(4063, 4), (0, 0)]), none, none, some (.ireturn, 0, 0, [])]
noncomputable def E_X5_count : ts_E := fun z => if z = 165 then F_X5_sumOf else if z = 116 then F_X5_finding else fun _ _ => none
noncomputable def F_X5_count : List ts_V → ts_S → Option ts_A := ts_Fn E_X5_count tb_X5_count 4
set_option maxRecDepth 20000 in
theorem ok_X5_count : ts_tbo 3 ts_mi [165, 116] (ts_mi 223).1.cls (ts_mi 223).2.2.2.1 (ts_mi 223).2.1 0 tb_X5_count = true := by decide +kernel
theorem con_X5_count {X : ts_X} {l : Launch} (hJ : ts_J X l) : ts_Met X l (ts_mi 223) 3 F_X5_count := ts_con (ts_mi 223) 3 (E := E_X5_count) (mi := ts_mi) (cs := [165, 116]) (tb := tb_X5_count) (plainFor_of_name (by decide +kernel)) hJ.1 (List.forall_mem_cons.mpr ⟨⟨mw_165, 2, by decide, con_X5_sumOf hJ⟩, List.forall_mem_cons.mpr ⟨⟨mw_116, 0, by decide, con_X5_finding hJ⟩, fun _ h => absurd h List.not_mem_nil⟩⟩) ok_X5_count
def tb_X5_status : List (Option ts_I) := [some (.iload_n 1, 1, 0, []), some (.iconst (-1), 4294967295, 0, []), some (.bipush 6, 6, 0, []), none, some (.invokestatic 70, 117, 3, [(4055, 9), (0, 0)]), none, none, some (.ifCond .eq 14, 21, 0, []), none, none, some (.aload_n 0, 0, 0, []), some (.getfield 19, 4, 4, [(3228, 0)]), none, none, some (.iload_n 1, 1, 0, []), some (.iconst 1, 1, 0, []), some (.iadd, 0, 0, []), some (.iaload, 0, 0, []), some (.goto 9, 27, 0, []), none, none, some (.aload_n 0, 0, 0, []), some (.ldc 60, 4293967295, 0, [(4062, 0)]), none, some (.invokevirtual 66, 116, 2, [(4063, 4), (0, 0)]), none, none, some (.ireturn, 0, 0, [])]
noncomputable def E_X5_status : ts_E := fun z => if z = 117 then F_X5_within else if z = 116 then F_X5_finding else fun _ _ => none
noncomputable def F_X5_status : List ts_V → ts_S → Option ts_A := ts_Fn E_X5_status tb_X5_status 2
set_option maxRecDepth 20000 in
theorem ok_X5_status : ts_tbo 1 ts_mi [117, 116] (ts_mi 224).1.cls (ts_mi 224).2.2.2.1 (ts_mi 224).2.1 0 tb_X5_status = true := by decide +kernel
theorem con_X5_status {X : ts_X} {l : Launch} (hJ : ts_J X l) : ts_Met X l (ts_mi 224) 1 F_X5_status := ts_con (ts_mi 224) 1 (E := E_X5_status) (mi := ts_mi) (cs := [117, 116]) (tb := tb_X5_status) (plainFor_of_name (by decide +kernel)) hJ.1 (List.forall_mem_cons.mpr ⟨⟨mw_117, 0, by decide, con_X5_within hJ⟩, List.forall_mem_cons.mpr ⟨⟨mw_116, 0, by decide, con_X5_finding hJ⟩, fun _ h => absurd h List.not_mem_nil⟩⟩) ok_X5_status
end
section
/-! the methods' equations, part 1 -/
def ts_q (g : Nat) : Prop := g = 1 ∨ g = 2 ∨ g = 3
def ts_bq (g k : Nat) : Prop := (g = 2 ∧ k = 1) ∨ (g = 3 ∧ k = 1) ∨ (g = 1 ∧ k = 2) ∨ (g = 1 ∧ k = 3)
def ts_rq (c n : Nat) : Prop := (c = 2 ∧ n = 8) ∨ (c = 3 ∧ n = 8) ∨ (c = 4 ∧ n = 8) ∨ (c = 7 ∧ n = 6) ∨ (c = 8 ∧ n = 6) ∨ (c = 9 ∧ n = 6)
def ts_mq (a b : Nat) : Prop := (a = 1 ∧ b = 2) ∨ (a = 2 ∧ b = 1) ∨ (a = 1 ∧ b = 3) ∨ (a = 3 ∧ b = 1)
set_option maxRecDepth 100000 in
set_option maxHeartbeats 2000000 in
theorem e_X0_parentOf (a1 : Int32) (σ : ts_S) : F_X0_parentOf [.inl a1] σ = (if a1 = nI 1 then (some (some (.inl (nI 0)), σ)) else if a1 = nI 2 then (some (some (.inl (nI 0)), σ)) else if a1 = nI 3 then (some (some (.inl (nI 2)), σ)) else if a1 = nI 4 then (some (some (.inl (nI 3)), σ)) else if a1 = nI 5 then (some (some (.inl (nI 0)), σ)) else if a1 = nI 6 then (some (some (.inl (nI 1)), σ)) else some (some (.inl (-1)), σ)) := by
  exact (ts_unf E_X0_parentOf tb_X0_parentOf [] 15 _).trans rfl
noncomputable def H_X0_isUnder_4 (v0 : Int32) (v1 : Int32) (v2 : Int32) (v3 : Int32) (σ : ts_S) : Option ts_A := ts_R E_X0_isUnder tb_X0_isUnder (4, [some (.inl v0), some (.inl v1), some (.inl v2), some (.inl v3)], [], σ)
set_option maxRecDepth 100000 in
set_option maxHeartbeats 2000000 in
theorem e_X0_isUnder (a1 : Int32) (a2 : Int32) (σ : ts_S) : F_X0_isUnder [.inl a1, .inl a2] σ = (H_X0_isUnder_4 a1 a2 a1 (nI 0) σ) := by
  exact (ts_unf E_X0_isUnder tb_X0_isUnder [4] 25 _).trans rfl
set_option maxRecDepth 100000 in
set_option maxHeartbeats 2000000 in
theorem h_X0_isUnder_4 (v0 : Int32) (v1 : Int32) (v2 : Int32) (v3 : Int32) (σ : ts_S) : H_X0_isUnder_4 v0 v1 v2 v3 σ = (if (nI 7) ≤ v3 then (some (some (.inl (nI 0)), σ)) else if v2 = (-1) then (some (some (.inl (nI 0)), σ)) else if v2 = v1 then (some (some (.inl (nI 1)), σ)) else ts_bi (F_X0_parentOf [.inl v2] σ) fun x2 σ1 => H_X0_isUnder_4 v0 v1 x2 (v3 + (nI 1)) σ1) := by
  exact (ts_unf E_X0_isUnder tb_X0_isUnder [4] 25 _).trans rfl
set_option maxRecDepth 100000 in
set_option maxHeartbeats 2000000 in
theorem e_X0_nameOf (a1 : Int32) (σ : ts_S) : F_X0_nameOf [.inl a1] σ = (if a1 = nI 1 then (some (some (.inr (.inr (.inr 1))), σ)) else if a1 = nI 2 then (some (some (.inr (.inr (.inr 2))), σ)) else if a1 = nI 3 then (some (some (.inr (.inr (.inr 3))), σ)) else if a1 = nI 4 then (some (some (.inr (.inr (.inr 4))), σ)) else if a1 = nI 5 then (some (some (.inr (.inr (.inr 5))), σ)) else if a1 = nI 6 then (some (some (.inr (.inr (.inr 6))), σ)) else some (some (.inr (.inr (.inr 0))), σ)) := by
  exact (ts_unf E_X0_nameOf tb_X0_nameOf [] 19 _).trans rfl
noncomputable def H_X3_isWord_28 (v1 : Nat) (v2 : Int32) (σ : ts_S) : Option ts_A := ts_R E_X3_isWord tb_X3_isWord (28, [some (.inr (.inr (.inl (4, 0)))), some (.inr (.inr (.inr v1))), some (.inl v2)], [], σ)
set_option maxRecDepth 100000 in
set_option maxHeartbeats 2000000 in
theorem e_X3_isWord {a1 : Nat} (ha : a1 < 13) (σ : ts_S) : F_X3_isWord [.inr (.inr (.inl (4, 0))), .inr (.inr (.inr a1))] σ = (if (σ 4 0 2) = (nI 1) then (ts_bi (F_slen [.inr (.inr (.inr a1))] σ) fun x2 σ1 => if ((σ 4 0 4) - (σ 4 0 3)) = x2 then (H_X3_isWord_28 a1 (nI 0) σ1) else some (some (.inl (nI 0)), σ1)) else some (some (.inl (nI 0)), σ)) := by
  match a1, ha with
  | 0, _ => exact (ts_unf E_X3_isWord tb_X3_isWord [28] 40 _).trans rfl
  | 1, _ => exact (ts_unf E_X3_isWord tb_X3_isWord [28] 40 _).trans rfl
  | 2, _ => exact (ts_unf E_X3_isWord tb_X3_isWord [28] 40 _).trans rfl
  | 3, _ => exact (ts_unf E_X3_isWord tb_X3_isWord [28] 40 _).trans rfl
  | 4, _ => exact (ts_unf E_X3_isWord tb_X3_isWord [28] 40 _).trans rfl
  | 5, _ => exact (ts_unf E_X3_isWord tb_X3_isWord [28] 40 _).trans rfl
  | 6, _ => exact (ts_unf E_X3_isWord tb_X3_isWord [28] 40 _).trans rfl
  | 7, _ => exact (ts_unf E_X3_isWord tb_X3_isWord [28] 40 _).trans rfl
  | 8, _ => exact (ts_unf E_X3_isWord tb_X3_isWord [28] 40 _).trans rfl
  | 9, _ => exact (ts_unf E_X3_isWord tb_X3_isWord [28] 40 _).trans rfl
  | 10, _ => exact (ts_unf E_X3_isWord tb_X3_isWord [28] 40 _).trans rfl
  | 11, _ => exact (ts_unf E_X3_isWord tb_X3_isWord [28] 40 _).trans rfl
  | 12, _ => exact (ts_unf E_X3_isWord tb_X3_isWord [28] 40 _).trans rfl
set_option maxRecDepth 100000 in
set_option maxHeartbeats 2000000 in
theorem h_X3_isWord_28 {v1 : Nat} (ha : v1 < 13) (v2 : Int32) (σ : ts_S) : H_X3_isWord_28 v1 v2 σ = (ts_bi (F_slen [.inr (.inr (.inr v1))] σ) fun x2 σ1 => if x2 ≤ v2 then (some (some (.inl (nI 1)), σ1)) else ts_ck ((σ1 4 0 3) + v2) 120 <| ts_bi (F_schar [.inr (.inr (.inr v1)), .inl v2] σ1) fun x4 σ3 => if (σ1 4 1 (((σ1 4 0 3) + v2).toNatClampNeg)) = x4 then (H_X3_isWord_28 v1 (v2 + (nI 1)) σ3) else some (some (.inl (nI 0)), σ3)) := by
  match v1, ha with
  | 0, _ => exact (ts_unf E_X3_isWord tb_X3_isWord [28] 40 _).trans rfl
  | 1, _ => exact (ts_unf E_X3_isWord tb_X3_isWord [28] 40 _).trans rfl
  | 2, _ => exact (ts_unf E_X3_isWord tb_X3_isWord [28] 40 _).trans rfl
  | 3, _ => exact (ts_unf E_X3_isWord tb_X3_isWord [28] 40 _).trans rfl
  | 4, _ => exact (ts_unf E_X3_isWord tb_X3_isWord [28] 40 _).trans rfl
  | 5, _ => exact (ts_unf E_X3_isWord tb_X3_isWord [28] 40 _).trans rfl
  | 6, _ => exact (ts_unf E_X3_isWord tb_X3_isWord [28] 40 _).trans rfl
  | 7, _ => exact (ts_unf E_X3_isWord tb_X3_isWord [28] 40 _).trans rfl
  | 8, _ => exact (ts_unf E_X3_isWord tb_X3_isWord [28] 40 _).trans rfl
  | 9, _ => exact (ts_unf E_X3_isWord tb_X3_isWord [28] 40 _).trans rfl
  | 10, _ => exact (ts_unf E_X3_isWord tb_X3_isWord [28] 40 _).trans rfl
  | 11, _ => exact (ts_unf E_X3_isWord tb_X3_isWord [28] 40 _).trans rfl
  | 12, _ => exact (ts_unf E_X3_isWord tb_X3_isWord [28] 40 _).trans rfl
noncomputable def H_X0_kindNamed_2 (v1 : Int32) (σ : ts_S) : Option ts_A := ts_R E_X0_kindNamed tb_X0_kindNamed (2, [some (.inr (.inr (.inl (4, 0)))), some (.inl v1)], [], σ)
set_option maxRecDepth 100000 in
set_option maxHeartbeats 2000000 in
theorem e_X0_kindNamed (σ : ts_S) : F_X0_kindNamed [.inr (.inr (.inl (4, 0)))] σ = (H_X0_kindNamed_2 (nI 0) σ) := by
  exact (ts_unf E_X0_kindNamed tb_X0_kindNamed [2] 19 _).trans rfl
set_option maxRecDepth 100000 in
set_option maxHeartbeats 2000000 in
theorem h_X0_kindNamed_2 (v1 : Int32) (σ : ts_S) : H_X0_kindNamed_2 v1 σ = (if (nI 7) ≤ v1 then (some (some (.inl (-1)), σ)) else ts_bs (F_X0_nameOf [.inl v1] σ) fun x2 σ1 => ts_bi (F_X3_isWord [.inr (.inr (.inl (4, 0))), .inr (.inr (.inr x2))] σ1) fun x4 σ3 => if x4 = nI 0 then (H_X0_kindNamed_2 (v1 + (nI 1)) σ3) else some (some (.inl v1), σ3)) := by
  exact (ts_unf E_X0_kindNamed tb_X0_kindNamed [2] 19 _).trans rfl
set_option maxRecDepth 100000 in
set_option maxHeartbeats 2000000 in
theorem e_X0_mostHeld (a1 : Int32) (σ : ts_S) : F_X0_mostHeld [.inl a1] σ = (if a1 = nI 1 then (some (some (.inl (nI 4)), σ)) else if a1 = nI 2 then (some (some (.inl (nI 5)), σ)) else if a1 = nI 3 then (some (some (.inl (nI 4)), σ)) else if a1 = nI 4 then (some (some (.inl (nI 2)), σ)) else if a1 = nI 5 then (some (some (.inl (nI 3)), σ)) else if a1 = nI 6 then (some (some (.inl (nI 0)), σ)) else some (some (.inl (nI 3)), σ)) := by
  exact (ts_unf E_X0_mostHeld tb_X0_mostHeld [] 17 _).trans rfl
noncomputable def H_X0_greatest_3 (v0 : Int32) (v1 : Int32) (σ : ts_S) : Option ts_A := ts_R E_X0_greatest tb_X0_greatest (3, [some (.inl v0), some (.inl v1)], [], σ)
set_option maxRecDepth 100000 in
set_option maxHeartbeats 2000000 in
theorem e_X0_greatest (a1 : Int32) (σ : ts_S) : F_X0_greatest [.inl a1] σ = (H_X0_greatest_3 a1 (nI 11) σ) := by
  exact (ts_unf E_X0_greatest tb_X0_greatest [3] 19 _).trans rfl
set_option maxRecDepth 100000 in
set_option maxHeartbeats 2000000 in
theorem h_X0_greatest_3 (v0 : Int32) (v1 : Int32) (σ : ts_S) : H_X0_greatest_3 v0 v1 σ = (if v1 < nI 0 then (some (some (.inl (-1)), σ)) else if ((v0 >>> (v1 &&& nI 31)) &&& (nI 1)) = nI 0 then (H_X0_greatest_3 v0 (v1 + (-1)) σ) else some (some (.inl v1), σ)) := by
  exact (ts_unf E_X0_greatest tb_X0_greatest [3] 19 _).trans rfl
noncomputable def H_X0_least_2 (v0 : Int32) (v1 : Int32) (σ : ts_S) : Option ts_A := ts_R E_X0_least tb_X0_least (2, [some (.inl v0), some (.inl v1)], [], σ)
set_option maxRecDepth 100000 in
set_option maxHeartbeats 2000000 in
theorem e_X0_least (a1 : Int32) (σ : ts_S) : F_X0_least [.inl a1] σ = (H_X0_least_2 a1 (nI 0) σ) := by
  exact (ts_unf E_X0_least tb_X0_least [2] 20 _).trans rfl
set_option maxRecDepth 100000 in
set_option maxHeartbeats 2000000 in
theorem h_X0_least_2 (v0 : Int32) (v1 : Int32) (σ : ts_S) : H_X0_least_2 v0 v1 σ = (if (nI 12) ≤ v1 then (some (some (.inl (-1)), σ)) else if ((v0 >>> (v1 &&& nI 31)) &&& (nI 1)) = nI 0 then (H_X0_least_2 v0 (v1 + (nI 1)) σ) else some (some (.inl v1), σ)) := by
  exact (ts_unf E_X0_least tb_X0_least [2] 20 _).trans rfl
set_option maxRecDepth 100000 in
set_option maxHeartbeats 2000000 in
theorem e_X0_wordTaken (a1 : Int32) (a2 : Int32) (a3 : Int32) (σ : ts_S) : F_X0_wordTaken [.inl a1, .inl a2, .inl a3] σ = (ts_bi (F_X0_greatest [.inl a2] σ) fun x2 σ1 => ts_bi (F_X0_greatest [.inl (a2 &&& (nI 1365))] σ1) fun x4 σ3 => if x4 = (-1) then (if a1 = nI 1 then (ts_bi (F_X0_least [.inl a2] σ3) fun x6 σ5 => some (some (.inl x6), σ5)) else if a1 = nI 2 then (some (some (.inl x4), σ3)) else if a1 = nI 3 then (some (some (.inl x2), σ3)) else if a1 = nI 4 then (if x2 = (-1) then (some (some (.inl x2), σ3)) else if ((a3 >>> (x2 &&& nI 31)) &&& (nI 1)) = nI 0 then (some (some (.inl x2), σ3)) else some (some (.inl (-1)), σ3)) else if a1 = nI 5 then (some (some (.inl x2), σ3)) else if a1 = nI 6 then (ts_bi (F_X0_least [.inl a2] σ3) fun x8 σ7 => some (some (.inl x8), σ7)) else some (some (.inl x2), σ3)) else if a1 = nI 1 then (ts_bi (F_X0_least [.inl a2] σ3) fun x10 σ9 => some (some (.inl x10), σ9)) else if a1 = nI 2 then (some (some (.inl x4), σ3)) else if a1 = nI 3 then (some (some (.inl x4), σ3)) else if a1 = nI 4 then (if x4 = (-1) then (some (some (.inl x4), σ3)) else if ((a3 >>> (x4 &&& nI 31)) &&& (nI 1)) = nI 0 then (some (some (.inl x4), σ3)) else some (some (.inl (-1)), σ3)) else if a1 = nI 5 then (some (some (.inl x2), σ3)) else if a1 = nI 6 then (ts_bi (F_X0_least [.inl a2] σ3) fun x12 σ11 => some (some (.inl x12), σ11)) else some (some (.inl x2), σ3)) := by
  exact (ts_unf E_X0_wordTaken tb_X0_wordTaken [] 42 _).trans rfl
set_option maxRecDepth 100000 in
set_option maxHeartbeats 2000000 in
theorem e_X0_placeGiven (a1 : Int32) (a2 : Int32) (a3 : Int32) (σ : ts_S) : F_X0_placeGiven [.inl a1, .inl a2, .inl a3] σ = (if nI 0 < a2 then (if a1 = nI 2 then (some (some (.inl (a2 - (nI 1))), σ)) else if a1 = nI 3 then (if (a3 - a3 / (nI 3) * (nI 3)) = nI 0 then (some (some (.inl (nI 0)), σ)) else some (some (.inl (a2 - (nI 1))), σ)) else if a1 = nI 4 then (if (a3 - a3 / (nI 3) * (nI 3)) = nI 0 then (some (some (.inl (nI 0)), σ)) else some (some (.inl (a2 - (nI 1))), σ)) else if a1 = nI 5 then (some (some (.inl (-1)), σ)) else some (some (.inl (nI 0)), σ)) else some (some (.inl (-1)), σ)) := by
  exact (ts_unf E_X0_placeGiven tb_X0_placeGiven [] 27 _).trans rfl
set_option maxRecDepth 100000 in
set_option maxHeartbeats 2000000 in
theorem e_X1_become {g : Nat} {k : Nat} (hg : ts_bq g k) (σ : ts_S) : F_X1_become [.inr (.inr (.inl (g, 0))), .inr (.inr (.inl (k, 0)))] σ = (ts_cpy σ 6 6 k 1 (nI 0) g 1 (nI 0) (nI 6) fun σ1 => ts_nw (ts_up σ1 g 0 1 (σ1 k 0 1)) fun σ2 => ts_nw (ts_up σ2 g 0 2 (σ2 k 0 2)) fun σ3 => ts_nw (ts_up σ3 g 0 3 (σ3 k 0 3)) fun σ4 => ts_nw (ts_up σ4 g 0 4 (σ4 k 0 4)) fun σ5 => ts_cpy σ5 8 8 k 2 (nI 0) g 2 (nI 0) (nI 8) fun σ6 => ts_cpy σ6 8 8 k 3 (nI 0) g 3 (nI 0) (nI 8) fun σ7 => ts_cpy σ7 8 8 k 4 (nI 0) g 4 (nI 0) (nI 8) fun σ8 => ts_cpy σ8 8 8 k 5 (nI 0) g 5 (nI 0) (nI 8) fun σ9 => ts_cpy σ9 40 40 k 6 (nI 0) g 6 (nI 0) (nI 40) fun σ10 => ts_nw (ts_up σ10 g 0 10 (σ10 k 0 10)) fun σ11 => ts_cpy σ11 6 6 k 7 (nI 0) g 7 (nI 0) (nI 6) fun σ12 => ts_cpy σ12 6 6 k 8 (nI 0) g 8 (nI 0) (nI 6) fun σ13 => ts_cpy σ13 6 6 k 9 (nI 0) g 9 (nI 0) (nI 6) fun σ14 => ts_cpy σ14 10 10 k 10 (nI 0) g 10 (nI 0) (nI 10) fun σ15 => some (none, σ15)) := by
  rcases hg with ⟨rfl, rfl⟩ | ⟨rfl, rfl⟩ | ⟨rfl, rfl⟩ | ⟨rfl, rfl⟩ <;> exact (ts_unf E_X1_become tb_X1_become [] 104 _).trans rfl
set_option maxRecDepth 100000 in
set_option maxHeartbeats 2000000 in
theorem e_X4_isBelow (a1 : Int32) (a2 : Int32) (σ : ts_S) : F_X4_isBelow [.inl a1, .inl a2] σ = (if a1 < nI 0 then (some (some (.inl (nI 0)), σ)) else if a2 ≤ a1 then (some (some (.inl (nI 0)), σ)) else some (some (.inl (nI 1)), σ)) := by
  exact (ts_unf E_X4_isBelow tb_X4_isBelow [] 12 _).trans rfl
set_option maxRecDepth 100000 in
set_option maxHeartbeats 2000000 in
theorem e_X1_isSill {g : Nat} (hg : ts_q g) (a1 : Int32) (σ : ts_S) : F_X1_isSill [.inr (.inr (.inl (g, 0))), .inl a1] σ = (ts_bi (F_X4_isBelow [.inl a1, .inl (σ g 0 4)] σ) fun x2 σ1 => if x2 = nI 0 ∨ x2 = nI 1 then some (some (.inl x2), σ1) else none) := by
  rcases hg with rfl | rfl | rfl <;> exact (ts_unf E_X1_isSill tb_X1_isSill [] 8 _).trans rfl
set_option maxRecDepth 100000 in
set_option maxHeartbeats 2000000 in
theorem e_X1_isPerson {g : Nat} (hg : ts_q g) (a1 : Int32) (σ : ts_S) : F_X1_isPerson [.inr (.inr (.inl (g, 0))), .inl a1] σ = (ts_bi (F_X4_isBelow [.inl a1, .inl (σ g 0 10)] σ) fun x2 σ1 => if x2 = nI 0 ∨ x2 = nI 1 then some (some (.inl x2), σ1) else none) := by
  rcases hg with rfl | rfl | rfl <;> exact (ts_unf E_X1_isPerson tb_X1_isPerson [] 8 _).trans rfl
set_option maxRecDepth 100000 in
set_option maxHeartbeats 2000000 in
theorem e_X1_hasWord {g : Nat} (hg : ts_q g) (a1 : Int32) (a2 : Int32) (σ : ts_S) : F_X1_hasWord [.inr (.inr (.inl (g, 0))), .inl a1, .inl a2] σ = (ts_ck a1 6 <| if (((σ g 7 (a1.toNatClampNeg)) >>> (a2 &&& nI 31)) &&& (nI 1)) = nI 0 then (some (some (.inl (nI 0)), σ)) else some (some (.inl (nI 1)), σ)) := by
  rcases hg with rfl | rfl | rfl <;> exact (ts_unf E_X1_hasWord tb_X1_hasWord [] 16 _).trans rfl
set_option maxRecDepth 100000 in
set_option maxHeartbeats 2000000 in
theorem e_X1_addSill {g : Nat} (hg : ts_q g) (a1 : Int32) (σ : ts_S) : F_X1_addSill [.inr (.inr (.inl (g, 0))), .inl a1] σ = (if (σ g 0 4) < (nI 8) then (ts_ni (σ g 0 4) fun y1 => ts_nw (ts_up σ g 0 4 ((σ g 0 4) + (nI 1))) fun σ2 => ts_ck y1 8 <| ts_nw (ts_up σ2 g 2 (y1.toNatClampNeg) a1) fun σ3 => ts_ck y1 8 <| ts_nw (ts_up σ3 g 3 (y1.toNatClampNeg) (nI 0)) fun σ4 => ts_ck y1 8 <| ts_nw (ts_up σ4 g 4 (y1.toNatClampNeg) (nI 0)) fun σ5 => ts_ck y1 8 <| ts_nw (ts_up σ5 g 5 (y1.toNatClampNeg) (nI 0)) fun σ6 => some (some (.inl y1), σ6)) else some (some (.inl (-1)), σ)) := by
  rcases hg with rfl | rfl | rfl <;> exact (ts_unf E_X1_addSill tb_X1_addSill [] 40 _).trans rfl
set_option maxRecDepth 100000 in
set_option maxHeartbeats 2000000 in
theorem e_X1_addPerson {g : Nat} (hg : ts_q g) (a1 : Int32) (σ : ts_S) : F_X1_addPerson [.inr (.inr (.inl (g, 0))), .inl a1] σ = (if (σ g 0 10) < (nI 6) then (ts_ni (σ g 0 10) fun y1 => ts_nw (ts_up σ g 0 10 ((σ g 0 10) + (nI 1))) fun σ2 => ts_ck y1 6 <| ts_nw (ts_up σ2 g 7 (y1.toNatClampNeg) a1) fun σ3 => ts_ck y1 6 <| ts_nw (ts_up σ3 g 8 (y1.toNatClampNeg) (-1)) fun σ4 => ts_ck y1 6 <| ts_nw (ts_up σ4 g 9 (y1.toNatClampNeg) (nI 0)) fun σ5 => some (some (.inl y1), σ5)) else some (some (.inl (-1)), σ)) := by
  rcases hg with rfl | rfl | rfl <;> exact (ts_unf E_X1_addPerson tb_X1_addPerson [] 35 _).trans rfl
set_option maxRecDepth 100000 in
set_option maxHeartbeats 2000000 in
theorem e_X1_keptAt {g : Nat} (hg : ts_q g) (a1 : Int32) (a2 : Int32) (σ : ts_S) : F_X1_keptAt [.inr (.inr (.inl (g, 0))), .inl a1, .inl a2] σ = (ts_bi (F_X4_isBelow [.inl a1, .inl (σ g 0 4)] σ) fun x2 σ1 => if x2 = nI 0 then (some (some (.inl (-1)), σ1)) else ts_ck a1 8 <| ts_bi (F_X4_isBelow [.inl a2, .inl (σ1 g 5 (a1.toNatClampNeg))] σ1) fun x4 σ3 => if x4 = nI 0 then (some (some (.inl (-1)), σ3)) else ts_ck ((a1 * (nI 5)) + a2) 40 <| some (some (.inl (σ3 g 6 (((a1 * (nI 5)) + a2).toNatClampNeg))), σ3)) := by
  rcases hg with rfl | rfl | rfl <;> exact (ts_unf E_X1_keptAt tb_X1_keptAt [] 26 _).trans rfl
noncomputable def H_X1_keptSet_4 (g : Nat) (v1 : Int32) (v2 : Int32) (v3 : Int32) (σ : ts_S) : Option ts_A := ts_R E_X1_keptSet tb_X1_keptSet (4, [some (.inr (.inr (.inl (g, 0)))), some (.inl v1), some (.inl v2), some (.inl v3)], [], σ)
set_option maxRecDepth 100000 in
set_option maxHeartbeats 2000000 in
theorem e_X1_keptSet {g : Nat} (hg : ts_q g) (a1 : Int32) (σ : ts_S) : F_X1_keptSet [.inr (.inr (.inl (g, 0))), .inl a1] σ = (H_X1_keptSet_4 g a1 (nI 0) (nI 0) σ) := by
  rcases hg with rfl | rfl | rfl <;> exact (ts_unf E_X1_keptSet tb_X1_keptSet [4] 30 _).trans rfl
set_option maxRecDepth 100000 in
set_option maxHeartbeats 2000000 in
theorem h_X1_keptSet_4 {g : Nat} (hg : ts_q g) (v1 : Int32) (v2 : Int32) (v3 : Int32) (σ : ts_S) : H_X1_keptSet_4 g v1 v2 v3 σ = (ts_ck v1 8 <| if (σ g 5 (v1.toNatClampNeg)) ≤ v3 then (some (some (.inl v2), σ)) else ts_ck ((v1 * (nI 5)) + v3) 40 <| ts_ni (v2 ||| ((nI 1) <<< ((σ g 6 (((v1 * (nI 5)) + v3).toNatClampNeg)) &&& nI 31))) fun y1 => H_X1_keptSet_4 g v1 y1 (v3 + (nI 1)) σ) := by
  rcases hg with rfl | rfl | rfl <;> exact (ts_unf E_X1_keptSet tb_X1_keptSet [4] 30 _).trans rfl
set_option maxRecDepth 100000 in
set_option maxHeartbeats 2000000 in
theorem e_X1_keep {g : Nat} (hg : ts_q g) (a1 : Int32) (a2 : Int32) (σ : ts_S) : F_X1_keep [.inr (.inr (.inl (g, 0))), .inl a1, .inl a2] σ = (ts_ck a1 8 <| if (σ g 5 (a1.toNatClampNeg)) < (nI 5) then (ts_ck a1 8 <| ts_ck ((a1 * (nI 5)) + (σ g 5 (a1.toNatClampNeg))) 40 <| ts_nw (ts_up σ g 6 (((a1 * (nI 5)) + (σ g 5 (a1.toNatClampNeg))).toNatClampNeg) a2) fun σ1 => ts_ck a1 8 <| ts_ck a1 8 <| ts_nw (ts_up σ1 g 5 (a1.toNatClampNeg) ((σ1 g 5 (a1.toNatClampNeg)) + (nI 1))) fun σ2 => some (some (.inl (nI 1)), σ2)) else some (some (.inl (nI 0)), σ)) := by
  rcases hg with rfl | rfl | rfl <;> exact (ts_unf E_X1_keep tb_X1_keep [] 33 _).trans rfl
noncomputable def H_X1_dropKept_7 (g : Nat) (v1 : Int32) (v2 : Int32) (v3 : Int32) (v4 : Int32) (σ : ts_S) : Option ts_A := ts_R E_X1_dropKept tb_X1_dropKept (7, [some (.inr (.inr (.inl (g, 0)))), some (.inl v1), some (.inl v2), some (.inl v3), some (.inl v4)], [], σ)
set_option maxRecDepth 100000 in
set_option maxHeartbeats 2000000 in
theorem e_X1_dropKept {g : Nat} (hg : ts_q g) (a1 : Int32) (a2 : Int32) (σ : ts_S) : F_X1_dropKept [.inr (.inr (.inl (g, 0))), .inl a1, .inl a2] σ = (ts_ni (a1 * (nI 5)) fun y1 => H_X1_dropKept_7 g a1 a2 y1 a2 σ) := by
  rcases hg with rfl | rfl | rfl <;> exact (ts_unf E_X1_dropKept tb_X1_dropKept [7] 42 _).trans rfl
set_option maxRecDepth 100000 in
set_option maxHeartbeats 2000000 in
theorem h_X1_dropKept_7 {g : Nat} (hg : ts_q g) (v1 : Int32) (v2 : Int32) (v3 : Int32) (v4 : Int32) (σ : ts_S) : H_X1_dropKept_7 g v1 v2 v3 v4 σ = (ts_ck v1 8 <| if ((σ g 5 (v1.toNatClampNeg)) - (nI 1)) ≤ v4 then (ts_ck v1 8 <| ts_ck v1 8 <| ts_nw (ts_up σ g 5 (v1.toNatClampNeg) ((σ g 5 (v1.toNatClampNeg)) - (nI 1))) fun σ1 => some (none, σ1)) else ts_ck ((v3 + v4) + (nI 1)) 40 <| ts_ck (v3 + v4) 40 <| ts_nw (ts_up σ g 6 ((v3 + v4).toNatClampNeg) (σ g 6 (((v3 + v4) + (nI 1)).toNatClampNeg))) fun σ2 => H_X1_dropKept_7 g v1 v2 v3 (v4 + (nI 1)) σ2) := by
  rcases hg with rfl | rfl | rfl <;> exact (ts_unf E_X1_dropKept tb_X1_dropKept [7] 42 _).trans rfl
set_option maxRecDepth 100000 in
set_option maxHeartbeats 2000000 in
theorem e_X1_placeGiven {g : Nat} (hg : ts_q g) (a1 : Int32) (σ : ts_S) : F_X1_placeGiven [.inr (.inr (.inl (g, 0))), .inl a1] σ = (ts_ck a1 8 <| ts_ck a1 8 <| ts_ck a1 8 <| ts_bi (F_X0_placeGiven [.inl (σ g 2 (a1.toNatClampNeg)), .inl (σ g 5 (a1.toNatClampNeg)), .inl (σ g 3 (a1.toNatClampNeg))] σ) fun x2 σ1 => some (some (.inl x2), σ1)) := by
  rcases hg with rfl | rfl | rfl <;> exact (ts_unf E_X1_placeGiven tb_X1_placeGiven [] 17 _).trans rfl
set_option maxRecDepth 100000 in
set_option maxHeartbeats 2000000 in
theorem e_X1_tellSill {g : Nat} (hg : ts_q g) (a1 : Int32) (a2 : Int32) (σ : ts_S) : F_X1_tellSill [.inr (.inr (.inl (g, 0))), .inl a1, .inl a2] σ = (if a2 = nI 0 then (ts_ck a1 8 <| some (some (.inl (σ g 2 (a1.toNatClampNeg))), σ)) else if a2 = nI 1 then (ts_ck a1 8 <| some (some (.inl (σ g 5 (a1.toNatClampNeg))), σ)) else if a2 = nI 2 then (ts_ck a1 8 <| some (some (.inl (σ g 3 (a1.toNatClampNeg))), σ)) else if a2 = nI 3 then (ts_ck a1 8 <| some (some (.inl (σ g 4 (a1.toNatClampNeg))), σ)) else if a2 = nI 4 then (ts_ck a1 8 <| ts_bi (F_X0_mostHeld [.inl (σ g 2 (a1.toNatClampNeg))] σ) fun x2 σ1 => some (some (.inl x2), σ1)) else if a2 = nI 5 then (ts_bi (F_X1_keptSet [.inr (.inr (.inl (g, 0))), .inl a1] σ) fun x4 σ3 => some (some (.inl x4), σ3)) else ts_bi (F_X1_placeGiven [.inr (.inr (.inl (g, 0))), .inl a1] σ) fun x6 σ5 => ts_bi (F_X1_keptAt [.inr (.inr (.inl (g, 0))), .inl a1, .inl x6] σ5) fun x8 σ7 => some (some (.inl x8), σ7)) := by
  rcases hg with rfl | rfl | rfl <;> exact (ts_unf E_X1_tellSill tb_X1_tellSill [] 42 _).trans rfl
set_option maxRecDepth 100000 in
set_option maxHeartbeats 2000000 in
theorem e_X1_tellPerson {g : Nat} (hg : ts_q g) (a1 : Int32) (a2 : Int32) (σ : ts_S) : F_X1_tellPerson [.inr (.inr (.inl (g, 0))), .inl a1, .inl a2] σ = (if a2 = nI 0 then (ts_ck a1 6 <| some (some (.inl (σ g 7 (a1.toNatClampNeg))), σ)) else if a2 = nI 1 then (ts_ck a1 6 <| some (some (.inl (σ g 8 (a1.toNatClampNeg))), σ)) else ts_ck a1 6 <| some (some (.inl (σ g 9 (a1.toNatClampNeg))), σ)) := by
  rcases hg with rfl | rfl | rfl <;> exact (ts_unf E_X1_tellPerson tb_X1_tellPerson [] 20 _).trans rfl
set_option maxRecDepth 100000 in
set_option maxHeartbeats 2000000 in
theorem e_X1_mayCross {g : Nat} (hg : ts_q g) (a1 : Int32) (a2 : Int32) (σ : ts_S) : F_X1_mayCross [.inr (.inr (.inl (g, 0))), .inl a1, .inl a2] σ = (ts_ck a2 8 <| if (σ g 4 (a2.toNatClampNeg)) = nI 0 then (ts_ck a1 6 <| if (σ g 8 (a1.toNatClampNeg)) = (-1) then (some (some (.inl (nI 1)), σ)) else ts_ck a1 6 <| if (σ g 8 (a1.toNatClampNeg)) = a2 then (some (some (.inl (nI 1)), σ)) else some (some (.inl (nI 0)), σ)) else some (some (.inl (nI 0)), σ)) := by
  rcases hg with rfl | rfl | rfl <;> exact (ts_unf E_X1_mayCross tb_X1_mayCross [] 24 _).trans rfl
set_option maxRecDepth 100000 in
set_option maxHeartbeats 2000000 in
theorem e_J9_min_7cf53 (a1 : Int32) (a2 : Int32) (σ : ts_S) : F_J9_min_7cf53 [.inl a1, .inl a2] σ = (if a2 < a1 then (some (some (.inl a2), σ)) else some (some (.inl a1), σ)) := by
  exact (ts_unf E_J9_min_7cf53 tb_J9_min_7cf53 [] 10 _).trans rfl
set_option maxRecDepth 100000 in
set_option maxHeartbeats 2000000 in
theorem e_X1_loseWord {g : Nat} (hg : ts_q g) (σ : ts_S) : F_X1_loseWord [.inr (.inr (.inl (g, 0)))] σ = (ts_bi (F_J9_min_7cf53 [.inl ((σ g 0 1) + (nI 1)), .inl (nI 99999)] σ) fun x2 σ1 => ts_nw (ts_up σ1 g 0 1 x2) fun σ3 => some (none, σ3)) := by
  rcases hg with rfl | rfl | rfl <;> exact (ts_unf E_X1_loseWord tb_X1_loseWord [] 12 _).trans rfl
set_option maxRecDepth 100000 in
set_option maxHeartbeats 2000000 in
theorem e_X1_goIn {g : Nat} (hg : ts_q g) (a1 : Int32) (a2 : Int32) (σ : ts_S) : F_X1_goIn [.inr (.inr (.inl (g, 0))), .inl a1, .inl a2] σ = (ts_ck a1 6 <| ts_nw (ts_up σ g 8 (a1.toNatClampNeg) a2) fun σ1 => ts_ck a2 8 <| ts_ck a1 6 <| ts_bi (F_X1_keptSet [.inr (.inr (.inl (g, 0))), .inl a2] σ1) fun x3 σ2 => ts_bi (F_X0_wordTaken [.inl (σ1 g 2 (a2.toNatClampNeg)), .inl (σ1 g 7 (a1.toNatClampNeg)), .inl x3] σ2) fun x5 σ4 => if x5 = (-1) then (some (some (.inl (-1)), σ4)) else ts_ck a1 6 <| ts_ck a1 6 <| ts_nw (ts_up σ4 g 7 (a1.toNatClampNeg) ((σ4 g 7 (a1.toNatClampNeg)) &&& (((nI 1) <<< (x5 &&& nI 31)) ^^^ (-1)))) fun σ6 => ts_ck a2 8 <| ts_ck a2 8 <| ts_bi (F_X0_mostHeld [.inl (σ6 g 2 (a2.toNatClampNeg))] σ6) fun x8 σ7 => if x8 ≤ (σ6 g 5 (a2.toNatClampNeg)) then (if (nI 0) = nI 0 then (ts_bv (F_X1_loseWord [.inr (.inr (.inl (g, 0)))] σ7) fun σ9 => some (some (.inl x5), σ9)) else ts_bi (F_X1_keep [.inr (.inr (.inl (g, 0))), .inl a2, .inl x5] σ7) fun x11 σ10 => if x11 = nI 0 then (ts_bv (F_X1_loseWord [.inr (.inr (.inl (g, 0)))] σ10) fun σ12 => some (some (.inl x5), σ12)) else some (some (.inl x5), σ10)) else if (nI 1) = nI 0 then (ts_bv (F_X1_loseWord [.inr (.inr (.inl (g, 0)))] σ7) fun σ13 => some (some (.inl x5), σ13)) else ts_bi (F_X1_keep [.inr (.inr (.inl (g, 0))), .inl a2, .inl x5] σ7) fun x15 σ14 => if x15 = nI 0 then (ts_bv (F_X1_loseWord [.inr (.inr (.inl (g, 0)))] σ14) fun σ16 => some (some (.inl x5), σ16)) else some (some (.inl x5), σ14)) := by
  rcases hg with rfl | rfl | rfl <;> exact (ts_unf E_X1_goIn tb_X1_goIn [] 63 _).trans rfl
set_option maxRecDepth 100000 in
set_option maxHeartbeats 2000000 in
theorem e_X1_comeOut {g : Nat} (hg : ts_q g) (a1 : Int32) (a2 : Int32) (σ : ts_S) : F_X1_comeOut [.inr (.inr (.inl (g, 0))), .inl a1, .inl a2] σ = (ts_ck a1 6 <| ts_nw (ts_up σ g 8 (a1.toNatClampNeg) (-1)) fun σ1 => ts_bi (F_X1_placeGiven [.inr (.inr (.inl (g, 0))), .inl a2] σ1) fun x3 σ2 => ts_bi (F_X1_keptAt [.inr (.inr (.inl (g, 0))), .inl a2, .inl x3] σ2) fun x5 σ4 => if x5 = (-1) then (some (some (.inl (-1)), σ4)) else ts_bv (F_X1_dropKept [.inr (.inr (.inl (g, 0))), .inl a2, .inl x3] σ4) fun σ6 => ts_bi (F_X1_hasWord [.inr (.inr (.inl (g, 0))), .inl a1, .inl x5] σ6) fun x8 σ7 => if x8 = nI 0 then (ts_ck a1 6 <| ts_ck a1 6 <| ts_nw (ts_up σ7 g 7 (a1.toNatClampNeg) ((σ7 g 7 (a1.toNatClampNeg)) ||| ((nI 1) <<< (x5 &&& nI 31)))) fun σ9 => some (some (.inl x5), σ9)) else ts_bv (F_X1_loseWord [.inr (.inr (.inl (g, 0)))] σ7) fun σ10 => ts_ck a1 6 <| ts_ck a1 6 <| ts_nw (ts_up σ10 g 7 (a1.toNatClampNeg) ((σ10 g 7 (a1.toNatClampNeg)) ||| ((nI 1) <<< (x5 &&& nI 31)))) fun σ11 => some (some (.inl x5), σ11)) := by
  rcases hg with rfl | rfl | rfl <;> exact (ts_unf E_X1_comeOut tb_X1_comeOut [] 45 _).trans rfl
set_option maxRecDepth 100000 in
set_option maxHeartbeats 2000000 in
theorem e_X1_makeCrossing {g : Nat} (hg : ts_q g) (a1 : Int32) (a2 : Int32) (σ : ts_S) : F_X1_makeCrossing [.inr (.inr (.inl (g, 0))), .inl a1, .inl a2] σ = (ts_bi (F_X1_isPerson [.inr (.inr (.inl (g, 0))), .inl a1] σ) fun x2 σ1 => if x2 = nI 0 then (some (some (.inl (-1)), σ1)) else ts_bi (F_X1_isSill [.inr (.inr (.inl (g, 0))), .inl a2] σ1) fun x4 σ3 => if x4 = nI 0 then (some (some (.inl (-1)), σ3)) else ts_bi (F_X1_mayCross [.inr (.inr (.inl (g, 0))), .inl a1, .inl a2] σ3) fun x6 σ5 => if x6 = nI 0 then (some (some (.inl (-1)), σ5)) else ts_ck a1 6 <| if (σ5 g 8 (a1.toNatClampNeg)) = (-1) then (ts_bi (F_X1_goIn [.inr (.inr (.inl (g, 0))), .inl a1, .inl a2] σ5) fun x8 σ7 => ts_ck a2 8 <| ts_bi (F_J9_min_7cf53 [.inl ((σ7 g 3 (a2.toNatClampNeg)) + (nI 1)), .inl (nI 9999)] σ7) fun x10 σ9 => ts_ck a2 8 <| ts_nw (ts_up σ9 g 3 (a2.toNatClampNeg) x10) fun σ11 => ts_ck a1 6 <| ts_bi (F_J9_min_7cf53 [.inl ((σ11 g 9 (a1.toNatClampNeg)) + (nI 1)), .inl (nI 9999)] σ11) fun x13 σ12 => ts_ck a1 6 <| ts_nw (ts_up σ12 g 9 (a1.toNatClampNeg) x13) fun σ14 => some (some (.inl x8), σ14)) else ts_bi (F_X1_comeOut [.inr (.inr (.inl (g, 0))), .inl a1, .inl a2] σ5) fun x16 σ15 => ts_ck a2 8 <| ts_bi (F_J9_min_7cf53 [.inl ((σ15 g 3 (a2.toNatClampNeg)) + (nI 1)), .inl (nI 9999)] σ15) fun x18 σ17 => ts_ck a2 8 <| ts_nw (ts_up σ17 g 3 (a2.toNatClampNeg) x18) fun σ19 => ts_ck a1 6 <| ts_bi (F_J9_min_7cf53 [.inl ((σ19 g 9 (a1.toNatClampNeg)) + (nI 1)), .inl (nI 9999)] σ19) fun x21 σ20 => ts_ck a1 6 <| ts_nw (ts_up σ20 g 9 (a1.toNatClampNeg) x21) fun σ22 => some (some (.inl x16), σ22)) := by
  rcases hg with rfl | rfl | rfl <;> exact (ts_unf E_X1_makeCrossing tb_X1_makeCrossing [] 60 _).trans rfl
set_option maxRecDepth 100000 in
set_option maxHeartbeats 2000000 in
theorem e_J9_floorMod_7cf53 (a1 : Int32) (a2 : Int32) (σ : ts_S) : F_J9_floorMod_7cf53 [.inl a1, .inl a2] σ = (if a2 = nI 0 then none else ts_ni (a1 - a1 / a2 * a2) fun y1 => if nI 0 ≤ (a1 ^^^ a2) then (some (some (.inl y1), σ)) else if y1 = nI 0 then (some (some (.inl y1), σ)) else some (some (.inl (y1 + a2)), σ)) := by
  exact (ts_unf E_J9_floorMod_7cf53 tb_J9_floorMod_7cf53 [] 19 _).trans rfl
set_option maxRecDepth 100000 in
set_option maxHeartbeats 2000000 in
theorem e_X1_placeOfToday {g : Nat} (hg : ts_q g) (σ : ts_S) : F_X1_placeOfToday [.inr (.inr (.inl (g, 0)))] σ = (ts_bi (F_J9_floorMod_7cf53 [.inl (σ g 0 2), .inl (nI 6)] σ) fun x2 σ1 => some (some (.inl x2), σ1)) := by
  rcases hg with rfl | rfl | rfl <;> exact (ts_unf E_X1_placeOfToday tb_X1_placeOfToday [] 8 _).trans rfl
noncomputable def H_X1_passDays_2 (g : Nat) (v1 : Int32) (v2 : Int32) (σ : ts_S) : Option ts_A := ts_R E_X1_passDays tb_X1_passDays (2, [some (.inr (.inr (.inl (g, 0)))), some (.inl v1), some (.inl v2), none], [], σ)
set_option maxRecDepth 100000 in
set_option maxHeartbeats 2000000 in
theorem e_X1_passDays {g : Nat} (hg : ts_q g) (a1 : Int32) (σ : ts_S) : F_X1_passDays [.inr (.inr (.inl (g, 0))), .inl a1] σ = (H_X1_passDays_2 g a1 (nI 0) σ) := by
  rcases hg with rfl | rfl | rfl <;> exact (ts_unf E_X1_passDays tb_X1_passDays [2] 34 _).trans rfl
set_option maxRecDepth 100000 in
set_option maxHeartbeats 2000000 in
theorem h_X1_passDays_2 {g : Nat} (hg : ts_q g) (v1 : Int32) (v2 : Int32) (σ : ts_S) : H_X1_passDays_2 g v1 v2 σ = (if v1 ≤ v2 then (some (none, σ)) else ts_bi (F_X1_placeOfToday [.inr (.inr (.inl (g, 0)))] σ) fun x2 σ1 => ts_ck x2 6 <| ts_ni (σ1 g 1 (x2.toNatClampNeg)) fun y3 => ts_bi (F_X1_makeCrossing [.inr (.inr (.inl (g, 0))), .inl (y3 / (nI 10)), .inl (y3 - y3 / (nI 10) * (nI 10))] σ1) fun x5 σ4 => ts_bi (F_J9_min_7cf53 [.inl ((σ4 g 0 2) + (nI 1)), .inl (nI 99999)] σ4) fun x7 σ6 => ts_nw (ts_up σ6 g 0 2 x7) fun σ8 => H_X1_passDays_2 g v1 (v2 + (nI 1)) σ8) := by
  rcases hg with rfl | rfl | rfl <;> exact (ts_unf E_X1_passDays tb_X1_passDays [2] 34 _).trans rfl
set_option maxRecDepth 100000 in
set_option maxHeartbeats 2000000 in
theorem e_X1_draw {g : Nat} (hg : ts_q g) (σ : ts_S) : F_X1_draw [.inr (.inr (.inl (g, 0)))] σ = (ts_nw (ts_up σ g 0 3 (((σ g 0 3) * (nI 1103515245)) + (nI 12345))) fun σ1 => some (some (.inl ((Int32.toUInt32 (σ1 g 0 3) >>> (Int32.toUInt32 (nI 8) &&& Int32.toUInt32 31)).toInt32)), σ1)) := by
  rcases hg with rfl | rfl | rfl <;> exact (ts_unf E_X1_draw tb_X1_draw [] 16 _).trans rfl
noncomputable def H_X1_wordsHad_4 (g : Nat) (v1 : Int32) (v2 : Int32) (σ : ts_S) : Option ts_A := ts_R E_X1_wordsHad tb_X1_wordsHad (4, [some (.inr (.inr (.inl (g, 0)))), some (.inl v1), some (.inl v2)], [], σ)
set_option maxRecDepth 100000 in
set_option maxHeartbeats 2000000 in
theorem e_X1_wordsHad {g : Nat} (hg : ts_q g) (σ : ts_S) : F_X1_wordsHad [.inr (.inr (.inl (g, 0)))] σ = (H_X1_wordsHad_4 g (nI 0) (nI 0) σ) := by
  rcases hg with rfl | rfl | rfl <;> exact (ts_unf E_X1_wordsHad tb_X1_wordsHad [4] 22 _).trans rfl
set_option maxRecDepth 100000 in
set_option maxHeartbeats 2000000 in
theorem h_X1_wordsHad_4 {g : Nat} (hg : ts_q g) (v1 : Int32) (v2 : Int32) (σ : ts_S) : H_X1_wordsHad_4 g v1 v2 σ = (if (σ g 0 10) ≤ v2 then (some (some (.inl v1), σ)) else ts_ck v2 6 <| ts_ni (v1 ||| (σ g 7 (v2.toNatClampNeg))) fun y1 => H_X1_wordsHad_4 g y1 (v2 + (nI 1)) σ) := by
  rcases hg with rfl | rfl | rfl <;> exact (ts_unf E_X1_wordsHad tb_X1_wordsHad [4] 22 _).trans rfl
noncomputable def H_X1_wordsKept_4 (g : Nat) (v1 : Int32) (v2 : Int32) (σ : ts_S) : Option ts_A := ts_R E_X1_wordsKept tb_X1_wordsKept (4, [some (.inr (.inr (.inl (g, 0)))), some (.inl v1), some (.inl v2)], [], σ)
set_option maxRecDepth 100000 in
set_option maxHeartbeats 2000000 in
theorem e_X1_wordsKept {g : Nat} (hg : ts_q g) (σ : ts_S) : F_X1_wordsKept [.inr (.inr (.inl (g, 0)))] σ = (H_X1_wordsKept_4 g (nI 0) (nI 0) σ) := by
  rcases hg with rfl | rfl | rfl <;> exact (ts_unf E_X1_wordsKept tb_X1_wordsKept [4] 21 _).trans rfl
set_option maxRecDepth 100000 in
set_option maxHeartbeats 2000000 in
theorem h_X1_wordsKept_4 {g : Nat} (hg : ts_q g) (v1 : Int32) (v2 : Int32) (σ : ts_S) : H_X1_wordsKept_4 g v1 v2 σ = (if (σ g 0 4) ≤ v2 then (some (some (.inl v1), σ)) else ts_bi (F_X1_keptSet [.inr (.inr (.inl (g, 0))), .inl v2] σ) fun x2 σ1 => ts_ni (v1 ||| x2) fun y3 => H_X1_wordsKept_4 g y3 (v2 + (nI 1)) σ1) := by
  rcases hg with rfl | rfl | rfl <;> exact (ts_unf E_X1_wordsKept tb_X1_wordsKept [4] 21 _).trans rfl
noncomputable def H_X1_peopleInside_4 (g : Nat) (v1 : Int32) (v2 : Int32) (σ : ts_S) : Option ts_A := ts_R E_X1_peopleInside tb_X1_peopleInside (4, [some (.inr (.inr (.inl (g, 0)))), some (.inl v1), some (.inl v2)], [], σ)
set_option maxRecDepth 100000 in
set_option maxHeartbeats 2000000 in
theorem e_X1_peopleInside {g : Nat} (hg : ts_q g) (σ : ts_S) : F_X1_peopleInside [.inr (.inr (.inl (g, 0)))] σ = (H_X1_peopleInside_4 g (nI 0) (nI 0) σ) := by
  rcases hg with rfl | rfl | rfl <;> exact (ts_unf E_X1_peopleInside tb_X1_peopleInside [4] 27 _).trans rfl
set_option maxRecDepth 100000 in
set_option maxHeartbeats 2000000 in
theorem h_X1_peopleInside_4 {g : Nat} (hg : ts_q g) (v1 : Int32) (v2 : Int32) (σ : ts_S) : H_X1_peopleInside_4 g v1 v2 σ = (if (σ g 0 10) ≤ v2 then (some (some (.inl v1), σ)) else ts_ck v2 6 <| if (σ g 8 (v2.toNatClampNeg)) = (-1) then (H_X1_peopleInside_4 g v1 (v2 + (nI 1)) σ) else ts_ni (v1 ||| ((nI 1) <<< (v2 &&& nI 31))) fun y1 => H_X1_peopleInside_4 g y1 (v2 + (nI 1)) σ) := by
  rcases hg with rfl | rfl | rfl <;> exact (ts_unf E_X1_peopleInside tb_X1_peopleInside [4] 27 _).trans rfl
noncomputable def H_X1_peopleWithoutWords_4 (g : Nat) (v1 : Int32) (v2 : Int32) (σ : ts_S) : Option ts_A := ts_R E_X1_peopleWithoutWords tb_X1_peopleWithoutWords (4, [some (.inr (.inr (.inl (g, 0)))), some (.inl v1), some (.inl v2)], [], σ)
set_option maxRecDepth 100000 in
set_option maxHeartbeats 2000000 in
theorem e_X1_peopleWithoutWords {g : Nat} (hg : ts_q g) (σ : ts_S) : F_X1_peopleWithoutWords [.inr (.inr (.inl (g, 0)))] σ = (H_X1_peopleWithoutWords_4 g (nI 0) (nI 0) σ) := by
  rcases hg with rfl | rfl | rfl <;> exact (ts_unf E_X1_peopleWithoutWords tb_X1_peopleWithoutWords [4] 26 _).trans rfl
set_option maxRecDepth 100000 in
set_option maxHeartbeats 2000000 in
theorem h_X1_peopleWithoutWords_4 {g : Nat} (hg : ts_q g) (v1 : Int32) (v2 : Int32) (σ : ts_S) : H_X1_peopleWithoutWords_4 g v1 v2 σ = (if (σ g 0 10) ≤ v2 then (some (some (.inl v1), σ)) else ts_ck v2 6 <| if (σ g 7 (v2.toNatClampNeg)) = nI 0 then (ts_ni (v1 ||| ((nI 1) <<< (v2 &&& nI 31))) fun y1 => H_X1_peopleWithoutWords_4 g y1 (v2 + (nI 1)) σ) else H_X1_peopleWithoutWords_4 g v1 (v2 + (nI 1)) σ) := by
  rcases hg with rfl | rfl | rfl <;> exact (ts_unf E_X1_peopleWithoutWords tb_X1_peopleWithoutWords [4] 26 _).trans rfl
noncomputable def H_X1_wearOfAll_4 (g : Nat) (v1 : Int32) (v2 : Int32) (σ : ts_S) : Option ts_A := ts_R E_X1_wearOfAll tb_X1_wearOfAll (4, [some (.inr (.inr (.inl (g, 0)))), some (.inl v1), some (.inl v2)], [], σ)
set_option maxRecDepth 100000 in
set_option maxHeartbeats 2000000 in
theorem e_X1_wearOfAll {g : Nat} (hg : ts_q g) (σ : ts_S) : F_X1_wearOfAll [.inr (.inr (.inl (g, 0)))] σ = (H_X1_wearOfAll_4 g (nI 0) (nI 0) σ) := by
  rcases hg with rfl | rfl | rfl <;> exact (ts_unf E_X1_wearOfAll tb_X1_wearOfAll [4] 22 _).trans rfl
set_option maxRecDepth 100000 in
set_option maxHeartbeats 2000000 in
theorem h_X1_wearOfAll_4 {g : Nat} (hg : ts_q g) (v1 : Int32) (v2 : Int32) (σ : ts_S) : H_X1_wearOfAll_4 g v1 v2 σ = (if (σ g 0 4) ≤ v2 then (some (some (.inl v1), σ)) else ts_ck v2 8 <| ts_ni (v1 + (σ g 3 (v2.toNatClampNeg))) fun y1 => H_X1_wearOfAll_4 g y1 (v2 + (nI 1)) σ) := by
  rcases hg with rfl | rfl | rfl <;> exact (ts_unf E_X1_wearOfAll tb_X1_wearOfAll [4] 22 _).trans rfl
noncomputable def H_X1_keptInAll_4 (g : Nat) (v1 : Int32) (v2 : Int32) (σ : ts_S) : Option ts_A := ts_R E_X1_keptInAll tb_X1_keptInAll (4, [some (.inr (.inr (.inl (g, 0)))), some (.inl v1), some (.inl v2)], [], σ)
set_option maxRecDepth 100000 in
set_option maxHeartbeats 2000000 in
theorem e_X1_keptInAll {g : Nat} (hg : ts_q g) (σ : ts_S) : F_X1_keptInAll [.inr (.inr (.inl (g, 0)))] σ = (H_X1_keptInAll_4 g (nI 0) (nI 0) σ) := by
  rcases hg with rfl | rfl | rfl <;> exact (ts_unf E_X1_keptInAll tb_X1_keptInAll [4] 22 _).trans rfl
set_option maxRecDepth 100000 in
set_option maxHeartbeats 2000000 in
theorem h_X1_keptInAll_4 {g : Nat} (hg : ts_q g) (v1 : Int32) (v2 : Int32) (σ : ts_S) : H_X1_keptInAll_4 g v1 v2 σ = (if (σ g 0 4) ≤ v2 then (some (some (.inl v1), σ)) else ts_ck v2 8 <| ts_ni (v1 + (σ g 5 (v2.toNatClampNeg))) fun y1 => H_X1_keptInAll_4 g y1 (v2 + (nI 1)) σ) := by
  rcases hg with rfl | rfl | rfl <;> exact (ts_unf E_X1_keptInAll tb_X1_keptInAll [4] 22 _).trans rfl
noncomputable def H_X1_spotsInUse_4 (g : Nat) (v1 : Int32) (v2 : Int32) (σ : ts_S) : Option ts_A := ts_R E_X1_spotsInUse tb_X1_spotsInUse (4, [some (.inr (.inr (.inl (g, 0)))), some (.inl v1), some (.inl v2)], [], σ)
set_option maxRecDepth 100000 in
set_option maxHeartbeats 2000000 in
theorem e_X1_spotsInUse {g : Nat} (hg : ts_q g) (σ : ts_S) : F_X1_spotsInUse [.inr (.inr (.inl (g, 0)))] σ = (H_X1_spotsInUse_4 g (nI 0) (nI 0) σ) := by
  rcases hg with rfl | rfl | rfl <;> exact (ts_unf E_X1_spotsInUse tb_X1_spotsInUse [4] 21 _).trans rfl
set_option maxRecDepth 100000 in
set_option maxHeartbeats 2000000 in
theorem h_X1_spotsInUse_4 {g : Nat} (hg : ts_q g) (v1 : Int32) (v2 : Int32) (σ : ts_S) : H_X1_spotsInUse_4 g v1 v2 σ = (if (nI 10) ≤ v2 then (some (some (.inl v1), σ)) else ts_ck v2 10 <| if (σ g 10 (v2.toNatClampNeg)) = (-1) then (H_X1_spotsInUse_4 g v1 (v2 + (nI 1)) σ) else H_X1_spotsInUse_4 g (v1 + (nI 1)) (v2 + (nI 1)) σ) := by
  rcases hg with rfl | rfl | rfl <;> exact (ts_unf E_X1_spotsInUse tb_X1_spotsInUse [4] 21 _).trans rfl
set_option maxRecDepth 100000 in
set_option maxHeartbeats 2000000 in
theorem e_X2_isMissing (a1 : Int32) (σ : ts_S) : F_X2_isMissing [.inr (.inr (.inl (5, 0))), .inl a1] σ = (ts_ck a1 4 <| if (σ 5 1 (a1.toNatClampNeg)) = nI 0 then (some (some (.inl (nI 1)), σ)) else some (some (.inl (nI 0)), σ)) := by
  exact (ts_unf E_X2_isMissing tb_X2_isMissing [] 12 _).trans rfl
noncomputable def H_X2_layOut_17 (v1 : Int32) (v2 : Int32) (v3 : Int32) (v4 : Int32) (σ : ts_S) : Option ts_A := ts_R E_X2_layOut tb_X2_layOut (17, [some (.inr (.inr (.inl (5, 0)))), some (.inl v1), some (.inl v2), some (.inl v3), some (.inl v4)], [], σ)
set_option maxRecDepth 100000 in
set_option maxHeartbeats 2000000 in
theorem e_X2_layOut (a1 : Int32) (a2 : Int32) (a3 : Int32) (σ : ts_S) : F_X2_layOut [.inr (.inr (.inl (5, 0))), .inl a1, .inl a2, .inl a3] σ = (ts_ck a1 4 <| ts_nw (ts_up σ 5 1 (a1.toNatClampNeg) a2) fun σ1 => ts_ck a1 4 <| ts_nw (ts_up σ1 5 2 (a1.toNatClampNeg) a3) fun σ2 => H_X2_layOut_17 a1 a2 a3 (nI 0) σ2) := by
  exact (ts_unf E_X2_layOut tb_X2_layOut [17] 30 _).trans rfl
set_option maxRecDepth 100000 in
set_option maxHeartbeats 2000000 in
theorem h_X2_layOut_17 (v1 : Int32) (v2 : Int32) (v3 : Int32) (v4 : Int32) (σ : ts_S) : H_X2_layOut_17 v1 v2 v3 v4 σ = (if v3 ≤ v4 then (some (none, σ)) else ts_ck ((v1 * (nI 40)) + v4) 160 <| ts_nw (ts_up σ 5 3 (((v1 * (nI 40)) + v4).toNatClampNeg) (nI 0)) fun σ1 => H_X2_layOut_17 v1 v2 v3 (v4 + (nI 1)) σ1) := by
  exact (ts_unf E_X2_layOut tb_X2_layOut [17] 30 _).trans rfl
set_option maxRecDepth 100000 in
set_option maxHeartbeats 2000000 in
theorem e_X2_numberAt (a1 : Int32) (a2 : Int32) (σ : ts_S) : F_X2_numberAt [.inr (.inr (.inl (5, 0))), .inl a1, .inl a2] σ = (ts_ck ((a1 * (nI 40)) + a2) 160 <| some (some (.inl (σ 5 3 (((a1 * (nI 40)) + a2).toNatClampNeg))), σ)) := by
  exact (ts_unf E_X2_numberAt tb_X2_numberAt [] 12 _).trans rfl
set_option maxRecDepth 100000 in
set_option maxHeartbeats 2000000 in
theorem e_X2_lowestBits (a1 : Int32) (a2 : Int32) (σ : ts_S) : F_X2_lowestBits [.inl a1, .inl a2] σ = (if a1 = nI 8 then (some (some (.inl ((Int32.toInt8 a2).toInt32)), σ)) else if a1 = nI 16 then (some (some (.inl ((Int32.toInt16 a2).toInt32)), σ)) else some (some (.inl a2), σ)) := by
  exact (ts_unf E_X2_lowestBits tb_X2_lowestBits [] 13 _).trans rfl
set_option maxRecDepth 100000 in
set_option maxHeartbeats 2000000 in
theorem e_X2_put (a1 : Int32) (a2 : Int32) (a3 : Int32) (σ : ts_S) : F_X2_put [.inr (.inr (.inl (5, 0))), .inl a1, .inl a2, .inl a3] σ = (ts_ck a1 4 <| ts_bi (F_X2_lowestBits [.inl (σ 5 1 (a1.toNatClampNeg)), .inl a3] σ) fun x2 σ1 => ts_ck ((a1 * (nI 40)) + a2) 160 <| ts_nw (ts_up σ1 5 3 (((a1 * (nI 40)) + a2).toNatClampNeg) x2) fun σ3 => some (none, σ3)) := by
  exact (ts_unf E_X2_put tb_X2_put [] 18 _).trans rfl
set_option maxRecDepth 100000 in
set_option maxHeartbeats 2000000 in
theorem e_X2_hasRange (a1 : Int32) (a2 : Int32) (a3 : Int32) (σ : ts_S) : F_X2_hasRange [.inr (.inr (.inl (5, 0))), .inl a1, .inl a2, .inl a3] σ = (if a2 < nI 0 then (some (some (.inl (nI 0)), σ)) else if a3 < nI 0 then (some (some (.inl (nI 0)), σ)) else ts_ck a1 4 <| if (σ 5 2 (a1.toNatClampNeg)) < a3 then (some (some (.inl (nI 0)), σ)) else ts_ck a1 4 <| if ((σ 5 2 (a1.toNatClampNeg)) - a3) < a2 then (some (some (.inl (nI 0)), σ)) else some (some (.inl (nI 1)), σ)) := by
  exact (ts_unf E_X2_hasRange tb_X2_hasRange [] 25 _).trans rfl
set_option maxRecDepth 100000 in
set_option maxHeartbeats 2000000 in
theorem e_X2_move (a1 : Int32) (a2 : Int32) (a3 : Int32) (a4 : Int32) (a5 : Int32) (σ : ts_S) : F_X2_move [.inr (.inr (.inl (5, 0))), .inl a1, .inl a2, .inl a3, .inl a4, .inl a5] σ = (ts_cpy σ 160 160 5 3 ((a1 * (nI 40)) + a2) 5 3 ((a3 * (nI 40)) + a4) a5 fun σ1 => some (none, σ1)) := by
  exact (ts_unf E_X2_move tb_X2_move [] 20 _).trans rfl
set_option maxRecDepth 100000 in
set_option maxHeartbeats 2000000 in
theorem e_X2_admits (a1 : Int32) (a2 : Int32) (a3 : Int32) (σ : ts_S) : F_X2_admits [.inr (.inr (.inl (5, 0))), .inl a1, .inl a2, .inl a3] σ = (ts_bi (F_X2_numberAt [.inr (.inr (.inl (5, 0))), .inl a1, .inl a2] σ) fun x2 σ1 => if x2 = (-1) then (some (some (.inl (nI 1)), σ1)) else if x2 = a3 then (some (some (.inl (nI 1)), σ1)) else some (some (.inl (nI 0)), σ1)) := by
  exact (ts_unf E_X2_admits tb_X2_admits [] 18 _).trans rfl
noncomputable def H_X3_append_21 (v1 : Int32) (v2 : Int32) (v3 : Int32) (σ : ts_S) : Option ts_A := ts_R E_X3_append tb_X3_append (21, [some (.inr (.inr (.inl (4, 0)))), some (.inl v1), some (.inl v2), some (.inl v3)], [], σ)
set_option maxRecDepth 100000 in
set_option maxHeartbeats 2000000 in
theorem e_X3_append (a1 : Int32) (a2 : Int32) (σ : ts_S) : F_X3_append [.inr (.inr (.inl (4, 0))), .inl a1, .inl a2] σ = (if a2 < nI 0 then (some (some (.inl (nI 0)), σ)) else if a2 ≤ ((nI 120) - (σ 4 0 1)) then (ts_ni (a2 - (nI 1)) fun y1 => H_X3_append_21 a1 a2 y1 σ) else some (some (.inl (nI 0)), σ)) := by
  exact (ts_unf E_X3_append tb_X3_append [21] 41 _).trans rfl
set_option maxRecDepth 100000 in
set_option maxHeartbeats 2000000 in
theorem h_X3_append_21 (v1 : Int32) (v2 : Int32) (v3 : Int32) (σ : ts_S) : H_X3_append_21 v1 v2 v3 σ = (if v3 < nI 0 then (some (some (.inl (nI 1)), σ)) else ts_ck (σ 4 0 1) 120 <| ts_nw (ts_up σ 4 1 ((σ 4 0 1).toNatClampNeg) (((Int32.toUInt32 v1 >>> (Int32.toUInt32 ((nI 8) * v3) &&& Int32.toUInt32 31)).toInt32) &&& (nI 255))) fun σ1 => ts_nw (ts_up σ1 4 0 1 ((σ1 4 0 1) + (nI 1))) fun σ2 => H_X3_append_21 v1 v2 (v3 + (-1)) σ2) := by
  exact (ts_unf E_X3_append tb_X3_append [21] 41 _).trans rfl
set_option maxRecDepth 100000 in
set_option maxHeartbeats 2000000 in
theorem e_X3_isLetter (a1 : Int32) (σ : ts_S) : F_X3_isLetter [.inl a1] σ = (if a1 < (nI 97) then (some (some (.inl (nI 0)), σ)) else if (nI 122) < a1 then (some (some (.inl (nI 0)), σ)) else some (some (.inl (nI 1)), σ)) := by
  exact (ts_unf E_X3_isLetter tb_X3_isLetter [] 13 _).trans rfl
set_option maxRecDepth 100000 in
set_option maxHeartbeats 2000000 in
theorem e_X3_isDigit (a1 : Int32) (σ : ts_S) : F_X3_isDigit [.inl a1] σ = (if a1 < (nI 48) then (some (some (.inl (nI 0)), σ)) else if (nI 57) < a1 then (some (some (.inl (nI 0)), σ)) else some (some (.inl (nI 1)), σ)) := by
  exact (ts_unf E_X3_isDigit tb_X3_isDigit [] 13 _).trans rfl
noncomputable def H_X3_readToken_8 (σ : ts_S) : Option ts_A := ts_R E_X3_readToken tb_X3_readToken (8, [some (.inr (.inr (.inl (4, 0))))], [], σ)
noncomputable def H_X3_readToken_157 (σ : ts_S) : Option ts_A := ts_R E_X3_readToken tb_X3_readToken (157, [some (.inr (.inr (.inl (4, 0))))], [], σ)
noncomputable def H_X3_readToken_93 (σ : ts_S) : Option ts_A := ts_R E_X3_readToken tb_X3_readToken (93, [some (.inr (.inr (.inl (4, 0))))], [], σ)
set_option maxRecDepth 100000 in
set_option maxHeartbeats 2000000 in
theorem e_X3_readToken (σ : ts_S) : F_X3_readToken [.inr (.inr (.inl (4, 0)))] σ = (ts_nw (ts_up σ 4 0 3 (σ 4 0 4)) fun σ1 => H_X3_readToken_8 σ1) := by
  exact (ts_unf E_X3_readToken tb_X3_readToken [8, 93, 157] 135 _).trans rfl
set_option maxRecDepth 100000 in
set_option maxHeartbeats 2000000 in
theorem h_X3_readToken_8 (σ : ts_S) : H_X3_readToken_8 σ = (if (σ 4 0 1) ≤ (σ 4 0 3) then (ts_nw (ts_up σ 4 0 4 (σ 4 0 3)) fun σ1 => if (σ1 4 0 3) < (σ1 4 0 1) then (ts_ck (σ1 4 0 3) 120 <| ts_bi (F_X3_isLetter [.inl (σ1 4 1 ((σ1 4 0 3).toNatClampNeg))] σ1) fun x3 σ2 => if x3 = nI 0 then (ts_ck (σ2 4 0 3) 120 <| ts_bi (F_X3_isDigit [.inl (σ2 4 1 ((σ2 4 0 3).toNatClampNeg))] σ2) fun x5 σ4 => if x5 = nI 0 then (ts_ck (σ4 4 0 3) 120 <| if (σ4 4 1 ((σ4 4 0 3).toNatClampNeg)) = (nI 59) then (ts_nw (ts_up σ4 4 0 2 (nI 3)) fun σ6 => ts_nw (ts_up σ6 4 0 4 ((σ6 4 0 4) + (nI 1))) fun σ7 => some (none, σ7)) else ts_nw (ts_up σ4 4 0 2 (nI 4)) fun σ8 => ts_nw (ts_up σ8 4 0 4 ((σ8 4 0 4) + (nI 1))) fun σ9 => some (none, σ9)) else ts_nw (ts_up σ4 4 0 2 (nI 2)) fun σ10 => ts_nw (ts_up σ10 4 0 5 (nI 0)) fun σ11 => H_X3_readToken_157 σ11) else ts_nw (ts_up σ2 4 0 2 (nI 1)) fun σ12 => H_X3_readToken_93 σ12) else ts_nw (ts_up σ1 4 0 2 (nI 0)) fun σ13 => some (none, σ13)) else ts_ck (σ 4 0 3) 120 <| if (σ 4 1 ((σ 4 0 3).toNatClampNeg)) = (nI 32) then (ts_nw (ts_up σ 4 0 3 ((σ 4 0 3) + (nI 1))) fun σ14 => H_X3_readToken_8 σ14) else ts_nw (ts_up σ 4 0 4 (σ 4 0 3)) fun σ15 => if (σ15 4 0 3) < (σ15 4 0 1) then (ts_ck (σ15 4 0 3) 120 <| ts_bi (F_X3_isLetter [.inl (σ15 4 1 ((σ15 4 0 3).toNatClampNeg))] σ15) fun x17 σ16 => if x17 = nI 0 then (ts_ck (σ16 4 0 3) 120 <| ts_bi (F_X3_isDigit [.inl (σ16 4 1 ((σ16 4 0 3).toNatClampNeg))] σ16) fun x19 σ18 => if x19 = nI 0 then (ts_ck (σ18 4 0 3) 120 <| if (σ18 4 1 ((σ18 4 0 3).toNatClampNeg)) = (nI 59) then (ts_nw (ts_up σ18 4 0 2 (nI 3)) fun σ20 => ts_nw (ts_up σ20 4 0 4 ((σ20 4 0 4) + (nI 1))) fun σ21 => some (none, σ21)) else ts_nw (ts_up σ18 4 0 2 (nI 4)) fun σ22 => ts_nw (ts_up σ22 4 0 4 ((σ22 4 0 4) + (nI 1))) fun σ23 => some (none, σ23)) else ts_nw (ts_up σ18 4 0 2 (nI 2)) fun σ24 => ts_nw (ts_up σ24 4 0 5 (nI 0)) fun σ25 => H_X3_readToken_157 σ25) else ts_nw (ts_up σ16 4 0 2 (nI 1)) fun σ26 => H_X3_readToken_93 σ26) else ts_nw (ts_up σ15 4 0 2 (nI 0)) fun σ27 => some (none, σ27)) := by
  exact (ts_unf E_X3_readToken tb_X3_readToken [8, 93, 157] 135 _).trans rfl
set_option maxRecDepth 100000 in
set_option maxHeartbeats 2000000 in
theorem h_X3_readToken_157 (σ : ts_S) : H_X3_readToken_157 σ = (if (σ 4 0 1) ≤ (σ 4 0 4) then (some (none, σ)) else ts_ck (σ 4 0 4) 120 <| ts_bi (F_X3_isDigit [.inl (σ 4 1 ((σ 4 0 4).toNatClampNeg))] σ) fun x2 σ1 => if x2 = nI 0 then (some (none, σ1)) else ts_ck (σ1 4 0 4) 120 <| ts_bi (F_J9_min_7cf53 [.inl ((((nI 10) * (σ1 4 0 5)) + (σ1 4 1 ((σ1 4 0 4).toNatClampNeg))) - (nI 48)), .inl (nI 10000)] σ1) fun x4 σ3 => ts_nw (ts_up σ3 4 0 5 x4) fun σ5 => ts_nw (ts_up σ5 4 0 4 ((σ5 4 0 4) + (nI 1))) fun σ6 => H_X3_readToken_157 σ6) := by
  exact (ts_unf E_X3_readToken tb_X3_readToken [8, 93, 157] 135 _).trans rfl
set_option maxRecDepth 100000 in
set_option maxHeartbeats 2000000 in
theorem h_X3_readToken_93 (σ : ts_S) : H_X3_readToken_93 σ = (if (σ 4 0 1) ≤ (σ 4 0 4) then (some (none, σ)) else ts_ck (σ 4 0 4) 120 <| ts_bi (F_X3_isLetter [.inl (σ 4 1 ((σ 4 0 4).toNatClampNeg))] σ) fun x2 σ1 => if x2 = nI 0 then (some (none, σ1)) else ts_nw (ts_up σ1 4 0 4 ((σ1 4 0 4) + (nI 1))) fun σ3 => H_X3_readToken_93 σ3) := by
  exact (ts_unf E_X3_readToken tb_X3_readToken [8, 93, 157] 135 _).trans rfl
set_option maxRecDepth 100000 in
set_option maxHeartbeats 2000000 in
theorem e_X3_isNumber (a1 : Int32) (σ : ts_S) : F_X3_isNumber [.inr (.inr (.inl (4, 0))), .inl a1] σ = (if (σ 4 0 2) = (nI 2) then (if a1 < (σ 4 0 5) then (some (some (.inl (nI 0)), σ)) else some (some (.inl (nI 1)), σ)) else some (some (.inl (nI 0)), σ)) := by
  exact (ts_unf E_X3_isNumber tb_X3_isNumber [] 15 _).trans rfl
set_option maxRecDepth 100000 in
set_option maxHeartbeats 2000000 in
theorem e_X3_readPerson (σ : ts_S) : F_X3_readPerson [.inr (.inr (.inl (4, 0))), .inr (.inr (.inl (2, 0)))] σ = (ts_bi (F_X1_addPerson [.inr (.inr (.inl (2, 0))), .inl (nI 0)] σ) fun x2 σ1 => if x2 = (-1) then (some (some (.inl (nI 0)), σ1)) else ts_bv (F_X3_readToken [.inr (.inr (.inl (4, 0)))] σ1) fun σ3 => ts_bi (F_X3_isWord [.inr (.inr (.inl (4, 0))), .inr (.inr (.inr 11))] σ3) fun x5 σ4 => if x5 = nI 0 then (ts_bi (F_X3_isWord [.inr (.inr (.inl (4, 0))), .inr (.inr (.inr 12))] σ4) fun x7 σ6 => if x7 = nI 0 then (some (some (.inl (nI 1)), σ6)) else ts_bv (F_X3_readToken [.inr (.inr (.inl (4, 0)))] σ6) fun σ8 => ts_bi (F_X3_isNumber [.inr (.inr (.inl (4, 0))), .inl ((σ8 2 0 4) - (nI 1))] σ8) fun x10 σ9 => if x10 = nI 0 then (some (some (.inl (nI 0)), σ9)) else ts_ck x2 6 <| ts_nw (ts_up σ9 2 8 (x2.toNatClampNeg) (σ9 4 0 5)) fun σ11 => ts_bv (F_X3_readToken [.inr (.inr (.inl (4, 0)))] σ11) fun σ12 => some (some (.inl (nI 1)), σ12)) else ts_bv (F_X3_readToken [.inr (.inr (.inl (4, 0)))] σ4) fun σ13 => ts_bi (F_X3_isNumber [.inr (.inr (.inl (4, 0))), .inl (nI 4095)] σ13) fun x15 σ14 => if x15 = nI 0 then (some (some (.inl (nI 0)), σ14)) else ts_ck x2 6 <| ts_nw (ts_up σ14 2 7 (x2.toNatClampNeg) (σ14 4 0 5)) fun σ16 => ts_bv (F_X3_readToken [.inr (.inr (.inl (4, 0)))] σ16) fun σ17 => ts_bi (F_X3_isWord [.inr (.inr (.inl (4, 0))), .inr (.inr (.inr 12))] σ17) fun x19 σ18 => if x19 = nI 0 then (some (some (.inl (nI 1)), σ18)) else ts_bv (F_X3_readToken [.inr (.inr (.inl (4, 0)))] σ18) fun σ20 => ts_bi (F_X3_isNumber [.inr (.inr (.inl (4, 0))), .inl ((σ20 2 0 4) - (nI 1))] σ20) fun x22 σ21 => if x22 = nI 0 then (some (some (.inl (nI 0)), σ21)) else ts_ck x2 6 <| ts_nw (ts_up σ21 2 8 (x2.toNatClampNeg) (σ21 4 0 5)) fun σ23 => ts_bv (F_X3_readToken [.inr (.inr (.inl (4, 0)))] σ23) fun σ24 => some (some (.inl (nI 1)), σ24)) := by
  exact (ts_unf E_X3_readPerson tb_X3_readPerson [] 59 _).trans rfl
set_option maxRecDepth 100000 in
set_option maxHeartbeats 2000000 in
theorem e_X3_readCrossing (σ : ts_S) : F_X3_readCrossing [.inr (.inr (.inl (4, 0))), .inr (.inr (.inl (2, 0)))] σ = (ts_bv (F_X3_readToken [.inr (.inr (.inl (4, 0)))] σ) fun σ1 => ts_bi (F_X3_isNumber [.inr (.inr (.inl (4, 0))), .inl (nI 5)] σ1) fun x3 σ2 => if x3 = nI 0 then (some (some (.inl (nI 0)), σ2)) else ts_ni (σ2 4 0 5) fun y4 => ts_bv (F_X3_readToken [.inr (.inr (.inl (4, 0)))] σ2) fun σ5 => ts_bi (F_X3_isNumber [.inr (.inr (.inl (4, 0))), .inl (nI 5)] σ5) fun x7 σ6 => if x7 = nI 0 then (some (some (.inl (nI 0)), σ6)) else ts_ni (σ6 4 0 5) fun y8 => ts_bv (F_X3_readToken [.inr (.inr (.inl (4, 0)))] σ6) fun σ9 => ts_bi (F_X3_isNumber [.inr (.inr (.inl (4, 0))), .inl (nI 7)] σ9) fun x11 σ10 => if x11 = nI 0 then (some (some (.inl (nI 0)), σ10)) else ts_ck y4 6 <| ts_nw (ts_up σ10 2 1 (y4.toNatClampNeg) (((nI 10) * y8) + (σ10 4 0 5))) fun σ12 => ts_bv (F_X3_readToken [.inr (.inr (.inl (4, 0)))] σ12) fun σ13 => some (some (.inl (nI 1)), σ13)) := by
  exact (ts_unf E_X3_readCrossing tb_X3_readCrossing [] 47 _).trans rfl
end
section
/-! the methods' equations, part 2 -/
noncomputable def H_X3_readKept_2 (v2 : Int32) (v3 : Int32) (σ : ts_S) : Option ts_A := ts_R E_X3_readKept tb_X3_readKept (2, [some (.inr (.inr (.inl (4, 0)))), some (.inr (.inr (.inl (2, 0)))), some (.inl v2), some (.inl v3)], [], σ)
set_option maxRecDepth 100000 in
set_option maxHeartbeats 2000000 in
theorem e_X3_readKept (a2 : Int32) (σ : ts_S) : F_X3_readKept [.inr (.inr (.inl (4, 0))), .inr (.inr (.inl (2, 0))), .inl a2] σ = (H_X3_readKept_2 a2 (nI 0) σ) := by
  exact (ts_unf E_X3_readKept tb_X3_readKept [2] 31 _).trans rfl
set_option maxRecDepth 100000 in
set_option maxHeartbeats 2000000 in
theorem h_X3_readKept_2 (v2 : Int32) (v3 : Int32) (σ : ts_S) : H_X3_readKept_2 v2 v3 σ = (if (nI 5) ≤ v3 then (ts_ck v2 8 <| if (σ 2 5 (v2.toNatClampNeg)) ≤ nI 0 then (some (some (.inl (nI 0)), σ)) else some (some (.inl (nI 1)), σ)) else ts_bi (F_X3_isNumber [.inr (.inr (.inl (4, 0))), .inl (nI 11)] σ) fun x2 σ1 => if x2 = nI 0 then (ts_ck v2 8 <| if (σ1 2 5 (v2.toNatClampNeg)) ≤ nI 0 then (some (some (.inl (nI 0)), σ1)) else some (some (.inl (nI 1)), σ1)) else ts_bi (F_X1_keep [.inr (.inr (.inl (2, 0))), .inl v2, .inl (σ1 4 0 5)] σ1) fun x4 σ3 => ts_bv (F_X3_readToken [.inr (.inr (.inl (4, 0)))] σ3) fun σ5 => H_X3_readKept_2 v2 (v3 + (nI 1)) σ5) := by
  exact (ts_unf E_X3_readKept tb_X3_readKept [2] 31 _).trans rfl
set_option maxRecDepth 100000 in
set_option maxHeartbeats 2000000 in
theorem e_X3_readSill (a2 : Int32) (σ : ts_S) : F_X3_readSill [.inr (.inr (.inl (4, 0))), .inr (.inr (.inl (2, 0))), .inl a2] σ = (ts_bi (F_X1_addSill [.inr (.inr (.inl (2, 0))), .inl a2] σ) fun x2 σ1 => if x2 = (-1) then (some (some (.inl (nI 0)), σ1)) else ts_bv (F_X3_readToken [.inr (.inr (.inl (4, 0)))] σ1) fun σ3 => ts_bi (F_X3_isWord [.inr (.inr (.inl (4, 0))), .inr (.inr (.inr 9))] σ3) fun x5 σ4 => if x5 = nI 0 then (ts_bi (F_X3_isWord [.inr (.inr (.inl (4, 0))), .inr (.inr (.inr 10))] σ4) fun x7 σ6 => if x7 = nI 0 then (some (some (.inl (nI 1)), σ6)) else ts_ck x2 8 <| ts_nw (ts_up σ6 2 4 (x2.toNatClampNeg) (nI 1)) fun σ8 => ts_bv (F_X3_readToken [.inr (.inr (.inl (4, 0)))] σ8) fun σ9 => some (some (.inl (nI 1)), σ9)) else ts_bv (F_X3_readToken [.inr (.inr (.inl (4, 0)))] σ4) fun σ10 => ts_bi (F_X3_readKept [.inr (.inr (.inl (4, 0))), .inr (.inr (.inl (2, 0))), .inl x2] σ10) fun x12 σ11 => if x12 = nI 0 then (some (some (.inl (nI 0)), σ11)) else ts_bi (F_X3_isWord [.inr (.inr (.inl (4, 0))), .inr (.inr (.inr 10))] σ11) fun x14 σ13 => if x14 = nI 0 then (some (some (.inl (nI 1)), σ13)) else ts_ck x2 8 <| ts_nw (ts_up σ13 2 4 (x2.toNatClampNeg) (nI 1)) fun σ15 => ts_bv (F_X3_readToken [.inr (.inr (.inl (4, 0)))] σ15) fun σ16 => some (some (.inl (nI 1)), σ16)) := by
  exact (ts_unf E_X3_readSill tb_X3_readSill [] 40 _).trans rfl
set_option maxRecDepth 100000 in
set_option maxHeartbeats 2000000 in
theorem e_X3_readItem (σ : ts_S) : F_X3_readItem [.inr (.inr (.inl (4, 0))), .inr (.inr (.inl (2, 0)))] σ = (ts_bi (F_X3_isWord [.inr (.inr (.inl (4, 0))), .inr (.inr (.inr 7))] σ) fun x2 σ1 => if x2 = nI 0 then (ts_bi (F_X3_isWord [.inr (.inr (.inl (4, 0))), .inr (.inr (.inr 8))] σ1) fun x4 σ3 => if x4 = nI 0 then (ts_bi (F_X0_kindNamed [.inr (.inr (.inl (4, 0)))] σ3) fun x6 σ5 => if x6 = (-1) then (some (some (.inl (nI 0)), σ5)) else ts_bi (F_X3_readSill [.inr (.inr (.inl (4, 0))), .inr (.inr (.inl (2, 0))), .inl x6] σ5) fun x8 σ7 => if x8 = nI 0 then (some (some (.inl (nI 0)), σ7)) else some (some (.inl (nI 1)), σ7)) else ts_bi (F_X3_readCrossing [.inr (.inr (.inl (4, 0))), .inr (.inr (.inl (2, 0)))] σ3) fun x10 σ9 => if x10 = nI 0 ∨ x10 = nI 1 then some (some (.inl x10), σ9) else none) else ts_bi (F_X3_readPerson [.inr (.inr (.inl (4, 0))), .inr (.inr (.inl (2, 0)))] σ1) fun x12 σ11 => if x12 = nI 0 ∨ x12 = nI 1 then some (some (.inl x12), σ11) else none) := by
  exact (ts_unf E_X3_readItem tb_X3_readItem [] 34 _).trans rfl
noncomputable def H_X3_readItems_11 (v2 : Int32) (σ : ts_S) : Option ts_A := ts_R E_X3_readItems tb_X3_readItems (11, [some (.inr (.inr (.inl (4, 0)))), some (.inr (.inr (.inl (2, 0)))), some (.inl v2)], [], σ)
set_option maxRecDepth 100000 in
set_option maxHeartbeats 2000000 in
theorem e_X3_readItems (σ : ts_S) : F_X3_readItems [.inr (.inr (.inl (4, 0))), .inr (.inr (.inl (2, 0)))] σ = (ts_nw (ts_up σ 4 0 4 (nI 0)) fun σ1 => ts_bv (F_X3_readToken [.inr (.inr (.inl (4, 0)))] σ1) fun σ2 => H_X3_readItems_11 (nI 1) σ2) := by
  exact (ts_unf E_X3_readItems tb_X3_readItems [11] 45 _).trans rfl
set_option maxRecDepth 100000 in
set_option maxHeartbeats 2000000 in
theorem h_X3_readItems_11 (v2 : Int32) (σ : ts_S) : H_X3_readItems_11 v2 σ = (if (nI 120) < v2 then (some (some (.inl ((-1) - (σ 4 0 3))), σ)) else ts_bi (F_X3_readItem [.inr (.inr (.inl (4, 0))), .inr (.inr (.inl (2, 0)))] σ) fun x2 σ1 => if x2 = nI 0 then (some (some (.inl ((-1) - (σ1 4 0 3))), σ1)) else if (σ1 4 0 2) = nI 0 then (some (some (.inl v2), σ1)) else if (σ1 4 0 2) = (nI 3) then (ts_bv (F_X3_readToken [.inr (.inr (.inl (4, 0)))] σ1) fun σ3 => H_X3_readItems_11 (v2 + (nI 1)) σ3) else some (some (.inl ((-1) - (σ1 4 0 3))), σ1)) := by
  exact (ts_unf E_X3_readItems tb_X3_readItems [11] 45 _).trans rfl
set_option maxRecDepth 100000 in
set_option maxHeartbeats 2000000 in
theorem e_X4_tell (a1 : Int32) (σ : ts_S) : F_X4_tell [.inr (.inr (.inl (0, 0))), .inl a1] σ = (ts_bi (F_X4_isBelow [.inl a1, .inl (nI 7)] σ) fun x2 σ1 => if x2 = nI 0 then (some (some (.inl ((Int32.ofNat 4293967295) - a1)), σ1)) else ts_ck a1 7 <| ts_ck a1 7 <| ts_nw (ts_up σ1 0 1 (a1.toNatClampNeg) ((σ1 0 1 (a1.toNatClampNeg)) + (nI 1))) fun σ3 => some (some (.inl ((Int32.ofNat 4293967295) - a1)), σ3)) := by
  exact (ts_unf E_X4_tell tb_X4_tell [] 19 _).trans rfl
set_option maxRecDepth 100000 in
set_option maxHeartbeats 2000000 in
theorem e_X4_list (a1 : Int32) (a2 : Int32) (a3 : Int32) (σ : ts_S) : F_X4_list [.inr (.inr (.inl (0, 0))), .inl a1, .inl a2, .inl a3] σ = (ts_bi (F_X4_isBelow [.inl a1, .inl (nI 6)] σ) fun x2 σ1 => if x2 = nI 0 then (ts_bi (F_X4_tell [.inr (.inr (.inl (0, 0))), .inl (nI 0)] σ1) fun x4 σ3 => some (some (.inl x4), σ3)) else ts_bi (F_X4_isBelow [.inl a2, .inl (nI 6)] σ1) fun x6 σ5 => if x6 = nI 0 then (ts_bi (F_X4_tell [.inr (.inr (.inl (0, 0))), .inl (nI 0)] σ5) fun x8 σ7 => some (some (.inl x8), σ7)) else ts_bi (F_X4_isBelow [.inl a3, .inl (nI 8)] σ5) fun x10 σ9 => if x10 = nI 0 then (ts_bi (F_X4_tell [.inr (.inr (.inl (0, 0))), .inl (nI 0)] σ9) fun x12 σ11 => some (some (.inl x12), σ11)) else ts_ck a1 6 <| ts_ni (σ9 1 1 (a1.toNatClampNeg)) fun y13 => ts_ck a1 6 <| ts_nw (ts_up σ9 1 1 (a1.toNatClampNeg) (((nI 10) * a2) + a3)) fun σ14 => some (some (.inl y13), σ14)) := by
  exact (ts_unf E_X4_list tb_X4_list [] 37 _).trans rfl
set_option maxRecDepth 100000 in
set_option maxHeartbeats 2000000 in
theorem e_X4_listed (a1 : Int32) (σ : ts_S) : F_X4_listed [.inr (.inr (.inl (0, 0))), .inl a1] σ = (ts_bi (F_X4_isBelow [.inl a1, .inl (nI 6)] σ) fun x2 σ1 => if x2 = nI 0 then (ts_bi (F_X4_tell [.inr (.inr (.inl (0, 0))), .inl (nI 0)] σ1) fun x4 σ3 => some (some (.inl x4), σ3)) else ts_ck a1 6 <| some (some (.inl (σ1 1 1 (a1.toNatClampNeg))), σ1)) := by
  exact (ts_unf E_X4_listed tb_X4_listed [] 17 _).trans rfl
set_option maxRecDepth 100000 in
set_option maxHeartbeats 2000000 in
theorem e_X4_sill (a1 : Int32) (σ : ts_S) : F_X4_sill [.inr (.inr (.inl (0, 0))), .inl a1] σ = (ts_bi (F_X4_isBelow [.inl a1, .inl (nI 7)] σ) fun x2 σ1 => if x2 = nI 0 then (ts_bi (F_X4_tell [.inr (.inr (.inl (0, 0))), .inl (nI 0)] σ1) fun x4 σ3 => some (some (.inl x4), σ3)) else ts_bi (F_X1_addSill [.inr (.inr (.inl (1, 0))), .inl a1] σ1) fun x6 σ5 => if x6 = (-1) then (ts_bi (F_X4_tell [.inr (.inr (.inl (0, 0))), .inl (nI 1)] σ5) fun x8 σ7 => some (some (.inl x8), σ7)) else some (some (.inl x6), σ5)) := by
  exact (ts_unf E_X4_sill tb_X4_sill [] 25 _).trans rfl
set_option maxRecDepth 100000 in
set_option maxHeartbeats 2000000 in
theorem e_X4_isWithin (a1 : Int32) (a2 : Int32) (a3 : Int32) (σ : ts_S) : F_X4_isWithin [.inl a1, .inl a2, .inl a3] σ = (if a1 < a2 then (some (some (.inl (nI 0)), σ)) else if a3 < a1 then (some (some (.inl (nI 0)), σ)) else some (some (.inl (nI 1)), σ)) := by
  exact (ts_unf E_X4_isWithin tb_X4_isWithin [] 13 _).trans rfl
set_option maxRecDepth 100000 in
set_option maxHeartbeats 2000000 in
theorem e_X4_person (a1 : Int32) (σ : ts_S) : F_X4_person [.inr (.inr (.inl (0, 0))), .inl a1] σ = (ts_bi (F_X4_isWithin [.inl a1, .inl (nI 0), .inl (nI 4095)] σ) fun x2 σ1 => if x2 = nI 0 then (ts_bi (F_X4_tell [.inr (.inr (.inl (0, 0))), .inl (nI 0)] σ1) fun x4 σ3 => some (some (.inl x4), σ3)) else ts_bi (F_X1_addPerson [.inr (.inr (.inl (1, 0))), .inl a1] σ1) fun x6 σ5 => if x6 = (-1) then (ts_bi (F_X4_tell [.inr (.inr (.inl (0, 0))), .inl (nI 1)] σ5) fun x8 σ7 => some (some (.inl x8), σ7)) else some (some (.inl x6), σ5)) := by
  exact (ts_unf E_X4_person tb_X4_person [] 26 _).trans rfl
set_option maxRecDepth 100000 in
set_option maxHeartbeats 2000000 in
theorem e_X4_of (a1 : Int32) (a2 : Int32) (σ : ts_S) : F_X4_of [.inr (.inr (.inl (0, 0))), .inl a1, .inl a2] σ = (ts_bi (F_X1_isSill [.inr (.inr (.inl (1, 0))), .inl a1] σ) fun x2 σ1 => if x2 = nI 0 then (ts_bi (F_X4_tell [.inr (.inr (.inl (0, 0))), .inl (nI 0)] σ1) fun x4 σ3 => some (some (.inl x4), σ3)) else ts_bi (F_X4_isWithin [.inl a2, .inl (nI 0), .inl (nI 6)] σ1) fun x6 σ5 => if x6 = nI 0 then (ts_bi (F_X4_tell [.inr (.inr (.inl (0, 0))), .inl (nI 0)] σ5) fun x8 σ7 => some (some (.inl x8), σ7)) else ts_bi (F_X1_tellSill [.inr (.inr (.inl (1, 0))), .inl a1, .inl a2] σ5) fun x10 σ9 => some (some (.inl x10), σ9)) := by
  exact (ts_unf E_X4_of tb_X4_of [] 23 _).trans rfl
set_option maxRecDepth 100000 in
set_option maxHeartbeats 2000000 in
theorem e_X4_word (a1 : Int32) (a2 : Int32) (σ : ts_S) : F_X4_word [.inr (.inr (.inl (0, 0))), .inl a1, .inl a2] σ = (ts_bi (F_X1_isSill [.inr (.inr (.inl (1, 0))), .inl a1] σ) fun x2 σ1 => if x2 = nI 0 then (ts_bi (F_X4_tell [.inr (.inr (.inl (0, 0))), .inl (nI 0)] σ1) fun x4 σ3 => some (some (.inl x4), σ3)) else if nI 0 ≤ a2 then (ts_bi (F_X1_keptAt [.inr (.inr (.inl (1, 0))), .inl a1, .inl a2] σ1) fun x6 σ5 => if x6 = (-1) then (ts_bi (F_X4_tell [.inr (.inr (.inl (0, 0))), .inl (nI 3)] σ5) fun x8 σ7 => some (some (.inl x8), σ7)) else some (some (.inl x6), σ5)) else ts_bi (F_X4_tell [.inr (.inr (.inl (0, 0))), .inl (nI 0)] σ1) fun x10 σ9 => some (some (.inl x10), σ9)) := by
  exact (ts_unf E_X4_word tb_X4_word [] 29 _).trans rfl
set_option maxRecDepth 100000 in
set_option maxHeartbeats 2000000 in
theorem e_X4_replace {c : Nat} {n : Nat} (hc : ts_rq c n) (a2 : Int32) (a3 : Int32) (σ : ts_S) : F_X4_replace [.inr (.inr (.inl (1, c))), .inl a2, .inl a3] σ = (ts_bi (F_X4_isBelow [.inl a2, .inl (nI n)] σ) fun x2 σ1 => if x2 = nI 0 then (some (some (.inl (-1)), σ1)) else ts_ck a2 n <| ts_ni (σ1 1 c (a2.toNatClampNeg)) fun y3 => ts_ck a2 n <| ts_nw (ts_up σ1 1 c (a2.toNatClampNeg) a3) fun σ4 => some (some (.inl y3), σ4)) := by
  rcases hc with ⟨rfl, rfl⟩ | ⟨rfl, rfl⟩ | ⟨rfl, rfl⟩ | ⟨rfl, rfl⟩ | ⟨rfl, rfl⟩ | ⟨rfl, rfl⟩ <;> exact (ts_unf E_X4_replace tb_X4_replace [] 20 _).trans rfl
set_option maxRecDepth 100000 in
set_option maxHeartbeats 2000000 in
theorem e_X4_change (a1 : Int32) (a2 : Int32) (a3 : Int32) (σ : ts_S) : F_X4_change [.inr (.inr (.inl (0, 0))), .inl a1, .inl a2, .inl a3] σ = (ts_bi (F_X1_isSill [.inr (.inr (.inl (1, 0))), .inl a1] σ) fun x2 σ1 => if x2 = nI 0 then (ts_bi (F_X4_tell [.inr (.inr (.inl (0, 0))), .inl (nI 0)] σ1) fun x4 σ3 => some (some (.inl x4), σ3)) else if a2 = nI 0 then (ts_bi (F_X4_isBelow [.inl a3, .inl (nI 7)] σ1) fun x6 σ5 => if x6 = nI 0 then (ts_bi (F_X4_tell [.inr (.inr (.inl (0, 0))), .inl (nI 0)] σ5) fun x8 σ7 => some (some (.inl x8), σ7)) else ts_bi (F_X4_replace [.inr (.inr (.inl (1, 2))), .inl a1, .inl a3] σ5) fun x10 σ9 => some (some (.inl x10), σ9)) else if a2 = nI 1 then (ts_bi (F_X4_tell [.inr (.inr (.inl (0, 0))), .inl (nI 0)] σ1) fun x12 σ11 => some (some (.inl x12), σ11)) else if a2 = nI 2 then (ts_bi (F_X4_isWithin [.inl a3, .inl (nI 0), .inl (nI 9999)] σ1) fun x14 σ13 => if x14 = nI 0 then (ts_bi (F_X4_tell [.inr (.inr (.inl (0, 0))), .inl (nI 0)] σ13) fun x16 σ15 => some (some (.inl x16), σ15)) else ts_bi (F_X4_replace [.inr (.inr (.inl (1, 3))), .inl a1, .inl a3] σ13) fun x18 σ17 => some (some (.inl x18), σ17)) else if a2 = nI 3 then (ts_bi (F_X4_isWithin [.inl a3, .inl (nI 0), .inl (nI 1)] σ1) fun x20 σ19 => if x20 = nI 0 then (ts_bi (F_X4_tell [.inr (.inr (.inl (0, 0))), .inl (nI 0)] σ19) fun x22 σ21 => some (some (.inl x22), σ21)) else ts_bi (F_X4_replace [.inr (.inr (.inl (1, 4))), .inl a1, .inl a3] σ19) fun x24 σ23 => some (some (.inl x24), σ23)) else ts_bi (F_X4_tell [.inr (.inr (.inl (0, 0))), .inl (nI 0)] σ1) fun x26 σ25 => some (some (.inl x26), σ25)) := by
  exact (ts_unf E_X4_change tb_X4_change [] 65 _).trans rfl
set_option maxRecDepth 100000 in
set_option maxHeartbeats 2000000 in
theorem e_X4_lay (a1 : Int32) (a2 : Int32) (σ : ts_S) : F_X4_lay [.inr (.inr (.inl (0, 0))), .inl a1, .inl a2] σ = (ts_bi (F_X1_isSill [.inr (.inr (.inl (1, 0))), .inl a1] σ) fun x2 σ1 => if x2 = nI 0 then (ts_bi (F_X4_tell [.inr (.inr (.inl (0, 0))), .inl (nI 0)] σ1) fun x4 σ3 => some (some (.inl x4), σ3)) else ts_bi (F_X4_isBelow [.inl a2, .inl (nI 12)] σ1) fun x6 σ5 => if x6 = nI 0 then (ts_bi (F_X4_tell [.inr (.inr (.inl (0, 0))), .inl (nI 0)] σ5) fun x8 σ7 => some (some (.inl x8), σ7)) else ts_bi (F_X1_keep [.inr (.inr (.inl (1, 0))), .inl a1, .inl a2] σ5) fun x10 σ9 => if x10 = nI 0 then (ts_bi (F_X4_tell [.inr (.inr (.inl (0, 0))), .inl (nI 1)] σ9) fun x12 σ11 => some (some (.inl x12), σ11)) else ts_ck a1 8 <| some (some (.inl (σ9 1 5 (a1.toNatClampNeg))), σ9)) := by
  exact (ts_unf E_X4_lay tb_X4_lay [] 32 _).trans rfl
set_option maxRecDepth 100000 in
set_option maxHeartbeats 2000000 in
theorem e_X4_ofPerson (a1 : Int32) (a2 : Int32) (σ : ts_S) : F_X4_ofPerson [.inr (.inr (.inl (0, 0))), .inl a1, .inl a2] σ = (ts_bi (F_X1_isPerson [.inr (.inr (.inl (1, 0))), .inl a1] σ) fun x2 σ1 => if x2 = nI 0 then (ts_bi (F_X4_tell [.inr (.inr (.inl (0, 0))), .inl (nI 0)] σ1) fun x4 σ3 => some (some (.inl x4), σ3)) else ts_bi (F_X4_isWithin [.inl a2, .inl (nI 0), .inl (nI 2)] σ1) fun x6 σ5 => if x6 = nI 0 then (ts_bi (F_X4_tell [.inr (.inr (.inl (0, 0))), .inl (nI 0)] σ5) fun x8 σ7 => some (some (.inl x8), σ7)) else ts_bi (F_X1_tellPerson [.inr (.inr (.inl (1, 0))), .inl a1, .inl a2] σ5) fun x10 σ9 => some (some (.inl x10), σ9)) := by
  exact (ts_unf E_X4_ofPerson tb_X4_ofPerson [] 23 _).trans rfl
set_option maxRecDepth 100000 in
set_option maxHeartbeats 2000000 in
theorem e_X4_send (a1 : Int32) (a2 : Int32) (a3 : Int32) (σ : ts_S) : F_X4_send [.inr (.inr (.inl (0, 0))), .inl a1, .inl a2, .inl a3] σ = (ts_bi (F_X1_isPerson [.inr (.inr (.inl (1, 0))), .inl a1] σ) fun x2 σ1 => if x2 = nI 0 then (ts_bi (F_X4_tell [.inr (.inr (.inl (0, 0))), .inl (nI 0)] σ1) fun x4 σ3 => some (some (.inl x4), σ3)) else if a2 = nI 0 then (ts_bi (F_X4_isWithin [.inl a3, .inl (nI 0), .inl (nI 4095)] σ1) fun x6 σ5 => if x6 = nI 0 then (ts_bi (F_X4_tell [.inr (.inr (.inl (0, 0))), .inl (nI 0)] σ5) fun x8 σ7 => some (some (.inl x8), σ7)) else ts_bi (F_X4_replace [.inr (.inr (.inl (1, 7))), .inl a1, .inl a3] σ5) fun x10 σ9 => some (some (.inl x10), σ9)) else if a2 = nI 1 then (if a3 = (-1) then (ts_bi (F_X4_replace [.inr (.inr (.inl (1, 8))), .inl a1, .inl a3] σ1) fun x12 σ11 => some (some (.inl x12), σ11)) else ts_bi (F_X1_isSill [.inr (.inr (.inl (1, 0))), .inl a3] σ1) fun x14 σ13 => if x14 = nI 0 then (ts_bi (F_X4_tell [.inr (.inr (.inl (0, 0))), .inl (nI 0)] σ13) fun x16 σ15 => some (some (.inl x16), σ15)) else ts_bi (F_X4_replace [.inr (.inr (.inl (1, 8))), .inl a1, .inl a3] σ13) fun x18 σ17 => some (some (.inl x18), σ17)) else if a2 = nI 2 then (ts_bi (F_X4_isWithin [.inl a3, .inl (nI 0), .inl (nI 9999)] σ1) fun x20 σ19 => if x20 = nI 0 then (ts_bi (F_X4_tell [.inr (.inr (.inl (0, 0))), .inl (nI 0)] σ19) fun x22 σ21 => some (some (.inl x22), σ21)) else ts_bi (F_X4_replace [.inr (.inr (.inl (1, 9))), .inl a1, .inl a3] σ19) fun x24 σ23 => some (some (.inl x24), σ23)) else ts_bi (F_X4_tell [.inr (.inr (.inl (0, 0))), .inl (nI 0)] σ1) fun x26 σ25 => some (some (.inl x26), σ25)) := by
  exact (ts_unf E_X4_send tb_X4_send [] 69 _).trans rfl
set_option maxRecDepth 100000 in
set_option maxHeartbeats 2000000 in
theorem e_X4_takes (a1 : Int32) (a2 : Int32) (σ : ts_S) : F_X4_takes [.inr (.inr (.inl (0, 0))), .inl a1, .inl a2] σ = (ts_bi (F_X1_isSill [.inr (.inr (.inl (1, 0))), .inl a1] σ) fun x2 σ1 => if x2 = nI 0 then (ts_bi (F_X4_tell [.inr (.inr (.inl (0, 0))), .inl (nI 0)] σ1) fun x4 σ3 => some (some (.inl x4), σ3)) else ts_bi (F_X4_isWithin [.inl a2, .inl (nI 0), .inl (nI 4095)] σ1) fun x6 σ5 => if x6 = nI 0 then (ts_bi (F_X4_tell [.inr (.inr (.inl (0, 0))), .inl (nI 0)] σ5) fun x8 σ7 => some (some (.inl x8), σ7)) else ts_ck a1 8 <| ts_bi (F_X1_keptSet [.inr (.inr (.inl (1, 0))), .inl a1] σ5) fun x10 σ9 => ts_bi (F_X0_wordTaken [.inl (σ5 1 2 (a1.toNatClampNeg)), .inl a2, .inl x10] σ9) fun x12 σ11 => if x12 = (-1) then (ts_bi (F_X4_tell [.inr (.inr (.inl (0, 0))), .inl (nI 3)] σ11) fun x14 σ13 => some (some (.inl x14), σ13)) else some (some (.inl x12), σ11)) := by
  exact (ts_unf E_X4_takes tb_X4_takes [] 38 _).trans rfl
set_option maxRecDepth 100000 in
set_option maxHeartbeats 2000000 in
theorem e_X4_cross (a1 : Int32) (a2 : Int32) (σ : ts_S) : F_X4_cross [.inr (.inr (.inl (0, 0))), .inl a1, .inl a2] σ = (ts_bi (F_X1_isPerson [.inr (.inr (.inl (1, 0))), .inl a1] σ) fun x2 σ1 => if x2 = nI 0 then (ts_bi (F_X4_tell [.inr (.inr (.inl (0, 0))), .inl (nI 0)] σ1) fun x4 σ3 => some (some (.inl x4), σ3)) else ts_bi (F_X1_isSill [.inr (.inr (.inl (1, 0))), .inl a2] σ1) fun x6 σ5 => if x6 = nI 0 then (ts_bi (F_X4_tell [.inr (.inr (.inl (0, 0))), .inl (nI 0)] σ5) fun x8 σ7 => some (some (.inl x8), σ7)) else ts_bi (F_X1_mayCross [.inr (.inr (.inl (1, 0))), .inl a1, .inl a2] σ5) fun x10 σ9 => if x10 = nI 0 then (ts_bi (F_X4_tell [.inr (.inr (.inl (0, 0))), .inl (nI 4)] σ9) fun x12 σ11 => some (some (.inl x12), σ11)) else ts_bi (F_X1_makeCrossing [.inr (.inr (.inl (1, 0))), .inl a1, .inl a2] σ9) fun x14 σ13 => some (some (.inl x14), σ13)) := by
  exact (ts_unf E_X4_cross tb_X4_cross [] 33 _).trans rfl
set_option maxRecDepth 100000 in
set_option maxHeartbeats 2000000 in
theorem e_X4_go (a1 : Int32) (σ : ts_S) : F_X4_go [.inr (.inr (.inl (0, 0))), .inl a1] σ = (ts_bi (F_X4_isWithin [.inl a1, .inl (nI 1), .inl (nI 60)] σ) fun x2 σ1 => if x2 = nI 0 then (ts_bi (F_X4_tell [.inr (.inr (.inl (0, 0))), .inl (nI 0)] σ1) fun x4 σ3 => some (some (.inl x4), σ3)) else if ((σ1 1 0 2) + a1) ≤ (nI 99999) then (ts_bv (F_X1_passDays [.inr (.inr (.inl (1, 0))), .inl a1] σ1) fun σ5 => some (some (.inl (σ5 1 0 1)), σ5)) else ts_bi (F_X4_tell [.inr (.inr (.inl (0, 0))), .inl (nI 4)] σ1) fun x7 σ6 => some (some (.inl x7), σ6)) := by
  exact (ts_unf E_X4_go tb_X4_go [] 31 _).trans rfl
set_option maxRecDepth 100000 in
set_option maxHeartbeats 2000000 in
theorem e_X4_now (a1 : Int32) (σ : ts_S) : F_X4_now [.inr (.inr (.inl (0, 0))), .inl a1] σ = (if a1 = nI 0 then (some (some (.inl (σ 1 0 2)), σ)) else if a1 = nI 1 then (some (some (.inl (σ 1 0 1)), σ)) else if a1 = nI 2 then (ts_bi (F_X1_wordsHad [.inr (.inr (.inl (1, 0)))] σ) fun x2 σ1 => some (some (.inl x2), σ1)) else if a1 = nI 3 then (ts_bi (F_X1_wordsKept [.inr (.inr (.inl (1, 0)))] σ) fun x4 σ3 => some (some (.inl x4), σ3)) else if a1 = nI 4 then (ts_bi (F_X1_peopleInside [.inr (.inr (.inl (1, 0)))] σ) fun x6 σ5 => some (some (.inl x6), σ5)) else if a1 = nI 5 then (ts_bi (F_X1_peopleWithoutWords [.inr (.inr (.inl (1, 0)))] σ) fun x8 σ7 => some (some (.inl x8), σ7)) else if a1 = nI 6 then (ts_bi (F_X1_wearOfAll [.inr (.inr (.inl (1, 0)))] σ) fun x10 σ9 => some (some (.inl x10), σ9)) else if a1 = nI 7 then (ts_bi (F_X1_keptInAll [.inr (.inr (.inl (1, 0)))] σ) fun x12 σ11 => some (some (.inl x12), σ11)) else ts_bi (F_X4_tell [.inr (.inr (.inl (0, 0))), .inl (nI 0)] σ) fun x14 σ13 => some (some (.inl x14), σ13)) := by
  exact (ts_unf E_X4_now tb_X4_now [] 41 _).trans rfl
set_option maxRecDepth 100000 in
set_option maxHeartbeats 2000000 in
theorem e_X4_beginTrial (σ : ts_S) : F_X4_beginTrial [.inr (.inr (.inl (0, 0)))] σ = (ts_bv (F_X1_become [.inr (.inr (.inl (2, 0))), .inr (.inr (.inl (1, 0)))] σ) fun σ1 => some (none, σ1)) := by
  exact (ts_unf E_X4_beginTrial tb_X4_beginTrial [] 9 _).trans rfl
set_option maxRecDepth 100000 in
set_option maxHeartbeats 2000000 in
theorem e_X4_ahead (a1 : Int32) (a2 : Int32) (a3 : Int32) (σ : ts_S) : F_X4_ahead [.inr (.inr (.inl (0, 0))), .inl a1, .inl a2, .inl a3] σ = (if a2 = (nI 1) then (ts_bi (F_X1_isSill [.inr (.inr (.inl (1, 0))), .inl a1] σ) fun x2 σ1 => if x2 = nI 0 then (ts_bi (F_X4_tell [.inr (.inr (.inl (0, 0))), .inl (nI 0)] σ1) fun x4 σ3 => some (some (.inl x4), σ3)) else if (nI 1) = nI 0 then (ts_bi (F_X4_tell [.inr (.inr (.inl (0, 0))), .inl (nI 0)] σ1) fun x6 σ5 => some (some (.inl x6), σ5)) else ts_bi (F_X4_isWithin [.inl a3, .inl (nI 0), .inl (nI 100)] σ1) fun x8 σ7 => if x8 = nI 0 then (ts_bi (F_X4_tell [.inr (.inr (.inl (0, 0))), .inl (nI 0)] σ7) fun x10 σ9 => some (some (.inl x10), σ9)) else ts_bv (F_X4_beginTrial [.inr (.inr (.inl (0, 0)))] σ7) fun σ11 => ts_bv (F_X1_passDays [.inr (.inr (.inl (2, 0))), .inl a3] σ11) fun σ12 => ts_bi (F_X1_tellSill [.inr (.inr (.inl (2, 0))), .inl a1, .inl a2] σ12) fun x14 σ13 => some (some (.inl x14), σ13)) else if a2 = (nI 2) then (ts_bi (F_X1_isSill [.inr (.inr (.inl (1, 0))), .inl a1] σ) fun x16 σ15 => if x16 = nI 0 then (ts_bi (F_X4_tell [.inr (.inr (.inl (0, 0))), .inl (nI 0)] σ15) fun x18 σ17 => some (some (.inl x18), σ17)) else if (nI 1) = nI 0 then (ts_bi (F_X4_tell [.inr (.inr (.inl (0, 0))), .inl (nI 0)] σ15) fun x20 σ19 => some (some (.inl x20), σ19)) else ts_bi (F_X4_isWithin [.inl a3, .inl (nI 0), .inl (nI 100)] σ15) fun x22 σ21 => if x22 = nI 0 then (ts_bi (F_X4_tell [.inr (.inr (.inl (0, 0))), .inl (nI 0)] σ21) fun x24 σ23 => some (some (.inl x24), σ23)) else ts_bv (F_X4_beginTrial [.inr (.inr (.inl (0, 0)))] σ21) fun σ25 => ts_bv (F_X1_passDays [.inr (.inr (.inl (2, 0))), .inl a3] σ25) fun σ26 => ts_bi (F_X1_tellSill [.inr (.inr (.inl (2, 0))), .inl a1, .inl a2] σ26) fun x28 σ27 => some (some (.inl x28), σ27)) else if a2 = (nI 5) then (ts_bi (F_X1_isSill [.inr (.inr (.inl (1, 0))), .inl a1] σ) fun x30 σ29 => if x30 = nI 0 then (ts_bi (F_X4_tell [.inr (.inr (.inl (0, 0))), .inl (nI 0)] σ29) fun x32 σ31 => some (some (.inl x32), σ31)) else if (nI 1) = nI 0 then (ts_bi (F_X4_tell [.inr (.inr (.inl (0, 0))), .inl (nI 0)] σ29) fun x34 σ33 => some (some (.inl x34), σ33)) else ts_bi (F_X4_isWithin [.inl a3, .inl (nI 0), .inl (nI 100)] σ29) fun x36 σ35 => if x36 = nI 0 then (ts_bi (F_X4_tell [.inr (.inr (.inl (0, 0))), .inl (nI 0)] σ35) fun x38 σ37 => some (some (.inl x38), σ37)) else ts_bv (F_X4_beginTrial [.inr (.inr (.inl (0, 0)))] σ35) fun σ39 => ts_bv (F_X1_passDays [.inr (.inr (.inl (2, 0))), .inl a3] σ39) fun σ40 => ts_bi (F_X1_tellSill [.inr (.inr (.inl (2, 0))), .inl a1, .inl a2] σ40) fun x42 σ41 => some (some (.inl x42), σ41)) else if a2 = (nI 6) then (ts_bi (F_X1_isSill [.inr (.inr (.inl (1, 0))), .inl a1] σ) fun x44 σ43 => if x44 = nI 0 then (ts_bi (F_X4_tell [.inr (.inr (.inl (0, 0))), .inl (nI 0)] σ43) fun x46 σ45 => some (some (.inl x46), σ45)) else if (nI 1) = nI 0 then (ts_bi (F_X4_tell [.inr (.inr (.inl (0, 0))), .inl (nI 0)] σ43) fun x48 σ47 => some (some (.inl x48), σ47)) else ts_bi (F_X4_isWithin [.inl a3, .inl (nI 0), .inl (nI 100)] σ43) fun x50 σ49 => if x50 = nI 0 then (ts_bi (F_X4_tell [.inr (.inr (.inl (0, 0))), .inl (nI 0)] σ49) fun x52 σ51 => some (some (.inl x52), σ51)) else ts_bv (F_X4_beginTrial [.inr (.inr (.inl (0, 0)))] σ49) fun σ53 => ts_bv (F_X1_passDays [.inr (.inr (.inl (2, 0))), .inl a3] σ53) fun σ54 => ts_bi (F_X1_tellSill [.inr (.inr (.inl (2, 0))), .inl a1, .inl a2] σ54) fun x56 σ55 => some (some (.inl x56), σ55)) else ts_bi (F_X1_isSill [.inr (.inr (.inl (1, 0))), .inl a1] σ) fun x58 σ57 => if x58 = nI 0 then (ts_bi (F_X4_tell [.inr (.inr (.inl (0, 0))), .inl (nI 0)] σ57) fun x60 σ59 => some (some (.inl x60), σ59)) else if (nI 0) = nI 0 then (ts_bi (F_X4_tell [.inr (.inr (.inl (0, 0))), .inl (nI 0)] σ57) fun x62 σ61 => some (some (.inl x62), σ61)) else ts_bi (F_X4_isWithin [.inl a3, .inl (nI 0), .inl (nI 100)] σ57) fun x64 σ63 => if x64 = nI 0 then (ts_bi (F_X4_tell [.inr (.inr (.inl (0, 0))), .inl (nI 0)] σ63) fun x66 σ65 => some (some (.inl x66), σ65)) else ts_bv (F_X4_beginTrial [.inr (.inr (.inl (0, 0)))] σ63) fun σ67 => ts_bv (F_X1_passDays [.inr (.inr (.inl (2, 0))), .inl a3] σ67) fun σ68 => ts_bi (F_X1_tellSill [.inr (.inr (.inl (2, 0))), .inl a1, .inl a2] σ68) fun x70 σ69 => some (some (.inl x70), σ69)) := by
  exact (ts_unf E_X4_ahead tb_X4_ahead [] 47 _).trans rfl
set_option maxRecDepth 100000 in
set_option maxHeartbeats 2000000 in
theorem e_X4_later (a1 : Int32) (a2 : Int32) (a3 : Int32) (σ : ts_S) : F_X4_later [.inr (.inr (.inl (0, 0))), .inl a1, .inl a2, .inl a3] σ = (ts_bi (F_X1_isPerson [.inr (.inr (.inl (1, 0))), .inl a1] σ) fun x2 σ1 => if x2 = nI 0 then (ts_bi (F_X4_tell [.inr (.inr (.inl (0, 0))), .inl (nI 0)] σ1) fun x4 σ3 => some (some (.inl x4), σ3)) else ts_bi (F_X4_isWithin [.inl a2, .inl (nI 0), .inl (nI 2)] σ1) fun x6 σ5 => if x6 = nI 0 then (ts_bi (F_X4_tell [.inr (.inr (.inl (0, 0))), .inl (nI 0)] σ5) fun x8 σ7 => some (some (.inl x8), σ7)) else ts_bi (F_X4_isWithin [.inl a3, .inl (nI 0), .inl (nI 100)] σ5) fun x10 σ9 => if x10 = nI 0 then (ts_bi (F_X4_tell [.inr (.inr (.inl (0, 0))), .inl (nI 0)] σ9) fun x12 σ11 => some (some (.inl x12), σ11)) else ts_bv (F_X4_beginTrial [.inr (.inr (.inl (0, 0)))] σ9) fun σ13 => ts_bv (F_X1_passDays [.inr (.inr (.inl (2, 0))), .inl a3] σ13) fun σ14 => ts_bi (F_X1_tellPerson [.inr (.inr (.inl (2, 0))), .inl a1, .inl a2] σ14) fun x16 σ15 => some (some (.inl x16), σ15)) := by
  exact (ts_unf E_X4_later tb_X4_later [] 34 _).trans rfl
noncomputable def H_X4_hears_32 (v1 : Int32) (v2 : Int32) (v3 : Int32) (σ : ts_S) : Option ts_A := ts_R E_X4_hears tb_X4_hears (32, [some (.inr (.inr (.inl (0, 0)))), some (.inl v1), some (.inl v2), some (.inl v3)], [], σ)
set_option maxRecDepth 100000 in
set_option maxHeartbeats 2000000 in
theorem e_X4_hears (a1 : Int32) (a2 : Int32) (σ : ts_S) : F_X4_hears [.inr (.inr (.inl (0, 0))), .inl a1, .inl a2] σ = (ts_bi (F_X1_isPerson [.inr (.inr (.inl (1, 0))), .inl a1] σ) fun x2 σ1 => if x2 = nI 0 then (ts_bi (F_X4_tell [.inr (.inr (.inl (0, 0))), .inl (nI 0)] σ1) fun x4 σ3 => some (some (.inl x4), σ3)) else ts_bi (F_X4_isBelow [.inl a2, .inl (nI 12)] σ1) fun x6 σ5 => if x6 = nI 0 then (ts_bi (F_X4_tell [.inr (.inr (.inl (0, 0))), .inl (nI 0)] σ5) fun x8 σ7 => some (some (.inl x8), σ7)) else ts_bv (F_X4_beginTrial [.inr (.inr (.inl (0, 0)))] σ5) fun σ9 => H_X4_hears_32 a1 a2 (nI 0) σ9) := by
  exact (ts_unf E_X4_hears tb_X4_hears [32] 41 _).trans rfl
set_option maxRecDepth 100000 in
set_option maxHeartbeats 2000000 in
theorem h_X4_hears_32 (v1 : Int32) (v2 : Int32) (v3 : Int32) (σ : ts_S) : H_X4_hears_32 v1 v2 v3 σ = (if (nI 200) < v3 then (ts_bi (F_X4_tell [.inr (.inr (.inl (0, 0))), .inl (nI 3)] σ) fun x2 σ1 => some (some (.inl x2), σ1)) else ts_bi (F_X1_hasWord [.inr (.inr (.inl (2, 0))), .inl v1, .inl v2] σ) fun x4 σ3 => if x4 = nI 0 then (ts_bv (F_X1_passDays [.inr (.inr (.inl (2, 0))), .inl (nI 1)] σ3) fun σ5 => H_X4_hears_32 v1 v2 (v3 + (nI 1)) σ5) else some (some (.inl v3), σ3)) := by
  exact (ts_unf E_X4_hears tb_X4_hears [32] 41 _).trans rfl
noncomputable def H_X4_waste_22 (v1 : Int32) (v2 : Int32) (σ : ts_S) : Option ts_A := ts_R E_X4_waste tb_X4_waste (22, [some (.inr (.inr (.inl (0, 0)))), some (.inl v1), some (.inl v2)], [], σ)
set_option maxRecDepth 100000 in
set_option maxHeartbeats 2000000 in
theorem e_X4_waste (a1 : Int32) (σ : ts_S) : F_X4_waste [.inr (.inr (.inl (0, 0))), .inl a1] σ = (ts_bi (F_X4_isWithin [.inl a1, .inl (nI 0), .inl (nI 99999)] σ) fun x2 σ1 => if x2 = nI 0 then (ts_bi (F_X4_tell [.inr (.inr (.inl (0, 0))), .inl (nI 0)] σ1) fun x4 σ3 => some (some (.inl x4), σ3)) else ts_bv (F_X4_beginTrial [.inr (.inr (.inl (0, 0)))] σ1) fun σ5 => H_X4_waste_22 a1 (nI 0) σ5) := by
  exact (ts_unf E_X4_waste tb_X4_waste [22] 36 _).trans rfl
set_option maxRecDepth 100000 in
set_option maxHeartbeats 2000000 in
theorem h_X4_waste_22 (v1 : Int32) (v2 : Int32) (σ : ts_S) : H_X4_waste_22 v1 v2 σ = (if (nI 200) < v2 then (ts_bi (F_X4_tell [.inr (.inr (.inl (0, 0))), .inl (nI 3)] σ) fun x2 σ1 => some (some (.inl x2), σ1)) else if (σ 2 0 1) < v1 then (ts_bv (F_X1_passDays [.inr (.inr (.inl (2, 0))), .inl (nI 1)] σ) fun σ3 => H_X4_waste_22 v1 (v2 + (nI 1)) σ3) else some (some (.inl v2), σ)) := by
  exact (ts_unf E_X4_waste tb_X4_waste [22] 36 _).trans rfl
noncomputable def H_X4_mute_23 (v1 : Int32) (v2 : Int32) (σ : ts_S) : Option ts_A := ts_R E_X4_mute tb_X4_mute (23, [some (.inr (.inr (.inl (0, 0)))), some (.inl v1), some (.inl v2)], [], σ)
set_option maxRecDepth 100000 in
set_option maxHeartbeats 2000000 in
theorem e_X4_mute (a1 : Int32) (σ : ts_S) : F_X4_mute [.inr (.inr (.inl (0, 0))), .inl a1] σ = (ts_bi (F_X1_isPerson [.inr (.inr (.inl (1, 0))), .inl a1] σ) fun x2 σ1 => if x2 = nI 0 then (ts_bi (F_X4_tell [.inr (.inr (.inl (0, 0))), .inl (nI 0)] σ1) fun x4 σ3 => some (some (.inl x4), σ3)) else ts_bv (F_X4_beginTrial [.inr (.inr (.inl (0, 0)))] σ1) fun σ5 => H_X4_mute_23 a1 (nI 0) σ5) := by
  exact (ts_unf E_X4_mute tb_X4_mute [23] 37 _).trans rfl
set_option maxRecDepth 100000 in
set_option maxHeartbeats 2000000 in
theorem h_X4_mute_23 (v1 : Int32) (v2 : Int32) (σ : ts_S) : H_X4_mute_23 v1 v2 σ = (if (nI 200) < v2 then (ts_bi (F_X4_tell [.inr (.inr (.inl (0, 0))), .inl (nI 3)] σ) fun x2 σ1 => some (some (.inl x2), σ1)) else ts_ck v1 6 <| if (σ 2 7 (v1.toNatClampNeg)) = nI 0 then (some (some (.inl v2), σ)) else ts_bv (F_X1_passDays [.inr (.inr (.inl (2, 0))), .inl (nI 1)] σ) fun σ3 => H_X4_mute_23 v1 (v2 + (nI 1)) σ3) := by
  exact (ts_unf E_X4_mute tb_X4_mute [23] 37 _).trans rfl
noncomputable def H_X4_sillFor_48 (v1 : Int32) (v2 : Int32) (v3 : Int32) (v4 : Int32) (v5 : Int32) (v6 : Int32) (σ : ts_S) : Option ts_A := ts_R E_X4_sillFor tb_X4_sillFor (48, [some (.inr (.inr (.inl (0, 0)))), some (.inl v1), some (.inl v2), some (.inl v3), some (.inl v4), some (.inl v5), some (.inl v6)], [], σ)
set_option maxRecDepth 100000 in
set_option maxHeartbeats 2000000 in
theorem e_X4_sillFor (a1 : Int32) (a2 : Int32) (σ : ts_S) : F_X4_sillFor [.inr (.inr (.inl (0, 0))), .inl a1, .inl a2] σ = (ts_bi (F_X4_isBelow [.inl a1, .inl (nI 6)] σ) fun x2 σ1 => if x2 = nI 0 then (ts_bi (F_X4_tell [.inr (.inr (.inl (0, 0))), .inl (nI 0)] σ1) fun x4 σ3 => some (some (.inl x4), σ3)) else ts_bi (F_X4_isWithin [.inl a2, .inl (nI 0), .inl (nI 60)] σ1) fun x6 σ5 => if x6 = nI 0 then (ts_bi (F_X4_tell [.inr (.inr (.inl (0, 0))), .inl (nI 0)] σ5) fun x8 σ7 => some (some (.inl x8), σ7)) else ts_ck a1 6 <| ts_ni ((σ5 1 1 (a1.toNatClampNeg)) / (nI 10)) fun y9 => H_X4_sillFor_48 a1 a2 y9 (nI 0) (nI 100000) (nI 0) σ5) := by
  exact (ts_unf E_X4_sillFor tb_X4_sillFor [48] 64 _).trans rfl
set_option maxRecDepth 100000 in
set_option maxHeartbeats 2000000 in
theorem h_X4_sillFor_48 (v1 : Int32) (v2 : Int32) (v3 : Int32) (v4 : Int32) (v5 : Int32) (v6 : Int32) (σ : ts_S) : H_X4_sillFor_48 v1 v2 v3 v4 v5 v6 σ = (if (nI 8) ≤ v6 then (some (some (.inl v4), σ)) else ts_bv (F_X4_beginTrial [.inr (.inr (.inl (0, 0)))] σ) fun σ1 => ts_ck v1 6 <| ts_nw (ts_up σ1 2 1 (v1.toNatClampNeg) (((nI 10) * v3) + v6)) fun σ2 => ts_bv (F_X1_passDays [.inr (.inr (.inl (2, 0))), .inl v2] σ2) fun σ3 => if v5 ≤ (σ3 2 0 1) then (H_X4_sillFor_48 v1 v2 v3 v4 v5 (v6 + (nI 1)) σ3) else ts_ni (σ3 2 0 1) fun y4 => H_X4_sillFor_48 v1 v2 v3 v6 y4 (v6 + (nI 1)) σ3) := by
  exact (ts_unf E_X4_sillFor tb_X4_sillFor [48] 64 _).trans rfl
noncomputable def H_X4_kindFor_36 (v1 : Int32) (v2 : Int32) (v3 : Int32) (v4 : Int32) (v5 : Int32) (σ : ts_S) : Option ts_A := ts_R E_X4_kindFor tb_X4_kindFor (36, [some (.inr (.inr (.inl (0, 0)))), some (.inl v1), some (.inl v2), some (.inl v3), some (.inl v4), some (.inl v5)], [], σ)
set_option maxRecDepth 100000 in
set_option maxHeartbeats 2000000 in
theorem e_X4_kindFor (a1 : Int32) (a2 : Int32) (σ : ts_S) : F_X4_kindFor [.inr (.inr (.inl (0, 0))), .inl a1, .inl a2] σ = (ts_bi (F_X1_isSill [.inr (.inr (.inl (1, 0))), .inl a1] σ) fun x2 σ1 => if x2 = nI 0 then (ts_bi (F_X4_tell [.inr (.inr (.inl (0, 0))), .inl (nI 0)] σ1) fun x4 σ3 => some (some (.inl x4), σ3)) else ts_bi (F_X4_isWithin [.inl a2, .inl (nI 0), .inl (nI 60)] σ1) fun x6 σ5 => if x6 = nI 0 then (ts_bi (F_X4_tell [.inr (.inr (.inl (0, 0))), .inl (nI 0)] σ5) fun x8 σ7 => some (some (.inl x8), σ7)) else H_X4_kindFor_36 a1 a2 (nI 0) (nI 100000) (nI 0) σ5) := by
  exact (ts_unf E_X4_kindFor tb_X4_kindFor [36] 53 _).trans rfl
set_option maxRecDepth 100000 in
set_option maxHeartbeats 2000000 in
theorem h_X4_kindFor_36 (v1 : Int32) (v2 : Int32) (v3 : Int32) (v4 : Int32) (v5 : Int32) (σ : ts_S) : H_X4_kindFor_36 v1 v2 v3 v4 v5 σ = (if (nI 7) ≤ v5 then (some (some (.inl v3), σ)) else ts_bv (F_X4_beginTrial [.inr (.inr (.inl (0, 0)))] σ) fun σ1 => ts_ck v1 8 <| ts_nw (ts_up σ1 2 2 (v1.toNatClampNeg) v5) fun σ2 => ts_bv (F_X1_passDays [.inr (.inr (.inl (2, 0))), .inl v2] σ2) fun σ3 => if v4 ≤ (σ3 2 0 1) then (H_X4_kindFor_36 v1 v2 v3 v4 (v5 + (nI 1)) σ3) else ts_ni (σ3 2 0 1) fun y4 => H_X4_kindFor_36 v1 v2 v5 y4 (v5 + (nI 1)) σ3) := by
  exact (ts_unf E_X4_kindFor tb_X4_kindFor [36] 53 _).trans rfl
noncomputable def H_X4_wordFor_46 (v1 : Int32) (v2 : Int32) (v3 : Int32) (v4 : Int32) (σ : ts_S) : Option ts_A := ts_R E_X4_wordFor tb_X4_wordFor (46, [some (.inr (.inr (.inl (0, 0)))), some (.inl v1), some (.inl v2), some (.inl v3), some (.inl v4)], [], σ)
set_option maxRecDepth 100000 in
set_option maxHeartbeats 2000000 in
theorem e_X4_wordFor (a1 : Int32) (a2 : Int32) (a3 : Int32) (σ : ts_S) : F_X4_wordFor [.inr (.inr (.inl (0, 0))), .inl a1, .inl a2, .inl a3] σ = (ts_bi (F_X1_isPerson [.inr (.inr (.inl (1, 0))), .inl a1] σ) fun x2 σ1 => if x2 = nI 0 then (ts_bi (F_X4_tell [.inr (.inr (.inl (0, 0))), .inl (nI 0)] σ1) fun x4 σ3 => some (some (.inl x4), σ3)) else ts_bi (F_X1_isPerson [.inr (.inr (.inl (1, 0))), .inl a2] σ1) fun x6 σ5 => if x6 = nI 0 then (ts_bi (F_X4_tell [.inr (.inr (.inl (0, 0))), .inl (nI 0)] σ5) fun x8 σ7 => some (some (.inl x8), σ7)) else if a1 = a2 then (ts_bi (F_X4_tell [.inr (.inr (.inl (0, 0))), .inl (nI 0)] σ5) fun x10 σ9 => some (some (.inl x10), σ9)) else ts_bi (F_X4_isWithin [.inl a3, .inl (nI 0), .inl (nI 60)] σ5) fun x12 σ11 => if x12 = nI 0 then (ts_bi (F_X4_tell [.inr (.inr (.inl (0, 0))), .inl (nI 0)] σ11) fun x14 σ13 => some (some (.inl x14), σ13)) else H_X4_wordFor_46 a1 a2 a3 (nI 0) σ11) := by
  exact (ts_unf E_X4_wordFor tb_X4_wordFor [46] 64 _).trans rfl
set_option maxRecDepth 100000 in
set_option maxHeartbeats 2000000 in
theorem h_X4_wordFor_46 (v1 : Int32) (v2 : Int32) (v3 : Int32) (v4 : Int32) (σ : ts_S) : H_X4_wordFor_46 v1 v2 v3 v4 σ = (if (nI 12) ≤ v4 then (ts_bi (F_X4_tell [.inr (.inr (.inl (0, 0))), .inl (nI 3)] σ) fun x2 σ1 => some (some (.inl x2), σ1)) else ts_bi (F_X1_hasWord [.inr (.inr (.inl (1, 0))), .inl v2, .inl v4] σ) fun x4 σ3 => if x4 = nI 0 then (ts_bv (F_X4_beginTrial [.inr (.inr (.inl (0, 0)))] σ3) fun σ5 => ts_ck v1 6 <| ts_nw (ts_up σ5 2 7 (v1.toNatClampNeg) ((nI 1) <<< (v4 &&& nI 31))) fun σ6 => ts_bv (F_X1_passDays [.inr (.inr (.inl (2, 0))), .inl v3] σ6) fun σ7 => ts_bi (F_X1_hasWord [.inr (.inr (.inl (2, 0))), .inl v2, .inl v4] σ7) fun x9 σ8 => if x9 = nI 0 then (H_X4_wordFor_46 v1 v2 v3 (v4 + (nI 1)) σ8) else some (some (.inl v4), σ8)) else H_X4_wordFor_46 v1 v2 v3 (v4 + (nI 1)) σ3) := by
  exact (ts_unf E_X4_wordFor tb_X4_wordFor [46] 64 _).trans rfl
set_option maxRecDepth 100000 in
set_option maxHeartbeats 2000000 in
theorem e_J6_bitCount_0f7a4 (a1 : Int32) (σ : ts_S) : F_J6_bitCount_0f7a4 [.inl a1] σ = (ts_ni (a1 - (((Int32.toUInt32 a1 >>> (Int32.toUInt32 (nI 1) &&& Int32.toUInt32 31)).toInt32) &&& (nI 1431655765))) fun y1 => ts_ni ((y1 &&& (nI 858993459)) + (((Int32.toUInt32 y1 >>> (Int32.toUInt32 (nI 2) &&& Int32.toUInt32 31)).toInt32) &&& (nI 858993459))) fun y2 => ts_ni ((y2 + ((Int32.toUInt32 y2 >>> (Int32.toUInt32 (nI 4) &&& Int32.toUInt32 31)).toInt32)) &&& (nI 252645135)) fun y3 => ts_ni (y3 + ((Int32.toUInt32 y3 >>> (Int32.toUInt32 (nI 8) &&& Int32.toUInt32 31)).toInt32)) fun y4 => ts_ni (y4 + ((Int32.toUInt32 y4 >>> (Int32.toUInt32 (nI 16) &&& Int32.toUInt32 31)).toInt32)) fun y5 => some (some (.inl (y5 &&& (nI 63))), σ)) := by
  exact (ts_unf E_J6_bitCount_0f7a4 tb_J6_bitCount_0f7a4 [] 45 _).trans rfl
noncomputable def H_X4_hasWhenMended_7 (v1 : Int32) (v2 : Int32) (v3 : Int32) (v4 : Int32) (v5 : Int32) (σ : ts_S) : Option ts_A := ts_R E_X4_hasWhenMended tb_X4_hasWhenMended (7, [some (.inr (.inr (.inl (0, 0)))), some (.inl v1), some (.inl v2), some (.inl v3), some (.inl v4), some (.inl v5)], [], σ)
set_option maxRecDepth 100000 in
set_option maxHeartbeats 2000000 in
theorem e_X4_hasWhenMended (a1 : Int32) (a2 : Int32) (a3 : Int32) (a4 : Int32) (σ : ts_S) : F_X4_hasWhenMended [.inr (.inr (.inl (0, 0))), .inl a1, .inl a2, .inl a3, .inl a4] σ = (ts_bv (F_X4_beginTrial [.inr (.inr (.inl (0, 0)))] σ) fun σ1 => H_X4_hasWhenMended_7 a1 a2 a3 a4 (nI 0) σ1) := by
  exact (ts_unf E_X4_hasWhenMended tb_X4_hasWhenMended [7] 36 _).trans rfl
set_option maxRecDepth 100000 in
set_option maxHeartbeats 2000000 in
theorem h_X4_hasWhenMended_7 (v1 : Int32) (v2 : Int32) (v3 : Int32) (v4 : Int32) (v5 : Int32) (σ : ts_S) : H_X4_hasWhenMended_7 v1 v2 v3 v4 v5 σ = (if (σ 2 0 4) ≤ v5 then (ts_bv (F_X1_passDays [.inr (.inr (.inl (2, 0))), .inl v3] σ) fun σ1 => ts_bi (F_X1_hasWord [.inr (.inr (.inl (2, 0))), .inl v1, .inl v2] σ1) fun x3 σ2 => if x3 = nI 0 ∨ x3 = nI 1 then some (some (.inl x3), σ2) else none) else if ((v4 >>> (v5 &&& nI 31)) &&& (nI 1)) = nI 0 then (H_X4_hasWhenMended_7 v1 v2 v3 v4 (v5 + (nI 1)) σ) else ts_ck v5 8 <| ts_nw (ts_up σ 2 4 (v5.toNatClampNeg) (nI 1)) fun σ4 => H_X4_hasWhenMended_7 v1 v2 v3 v4 (v5 + (nI 1)) σ4) := by
  exact (ts_unf E_X4_hasWhenMended tb_X4_hasWhenMended [7] 36 _).trans rfl
noncomputable def H_X4_mend_50 (v1 : Int32) (v2 : Int32) (v3 : Int32) (v4 : Int32) (v5 : Int32) (σ : ts_S) : Option ts_A := ts_R E_X4_mend tb_X4_mend (50, [some (.inr (.inr (.inl (0, 0)))), some (.inl v1), some (.inl v2), some (.inl v3), some (.inl v4), some (.inl v5), none], [], σ)
noncomputable def H_X4_mend_65 (v1 : Int32) (v2 : Int32) (v3 : Int32) (v4 : Int32) (v5 : Int32) (v6 : Int32) (σ : ts_S) : Option ts_A := ts_R E_X4_mend tb_X4_mend (65, [some (.inr (.inr (.inl (0, 0)))), some (.inl v1), some (.inl v2), some (.inl v3), some (.inl v4), some (.inl v5), some (.inl v6)], [], σ)
set_option maxRecDepth 100000 in
set_option maxHeartbeats 2000000 in
theorem e_X4_mend (a1 : Int32) (a2 : Int32) (a3 : Int32) (σ : ts_S) : F_X4_mend [.inr (.inr (.inl (0, 0))), .inl a1, .inl a2, .inl a3] σ = (ts_bi (F_X1_isPerson [.inr (.inr (.inl (1, 0))), .inl a1] σ) fun x2 σ1 => if x2 = nI 0 then (ts_bi (F_X4_tell [.inr (.inr (.inl (0, 0))), .inl (nI 0)] σ1) fun x4 σ3 => some (some (.inl x4), σ3)) else ts_bi (F_X4_isBelow [.inl a2, .inl (nI 12)] σ1) fun x6 σ5 => if x6 = nI 0 then (ts_bi (F_X4_tell [.inr (.inr (.inl (0, 0))), .inl (nI 0)] σ5) fun x8 σ7 => some (some (.inl x8), σ7)) else ts_bi (F_X4_isWithin [.inl a3, .inl (nI 0), .inl (nI 20)] σ5) fun x10 σ9 => if x10 = nI 0 then (ts_bi (F_X4_tell [.inr (.inr (.inl (0, 0))), .inl (nI 0)] σ9) fun x12 σ11 => some (some (.inl x12), σ11)) else ts_ni ((nI 1) <<< ((σ9 1 0 4) &&& nI 31)) fun y13 => H_X4_mend_50 a1 a2 a3 y13 (nI 0) σ9) := by
  exact (ts_unf E_X4_mend tb_X4_mend [50, 65] 60 _).trans rfl
set_option maxRecDepth 100000 in
set_option maxHeartbeats 2000000 in
theorem h_X4_mend_50 (v1 : Int32) (v2 : Int32) (v3 : Int32) (v4 : Int32) (v5 : Int32) (σ : ts_S) : H_X4_mend_50 v1 v2 v3 v4 v5 σ = (if (σ 1 0 4) < v5 then (ts_bi (F_X4_tell [.inr (.inr (.inl (0, 0))), .inl (nI 3)] σ) fun x2 σ1 => some (some (.inl x2), σ1)) else H_X4_mend_65 v1 v2 v3 v4 v5 (nI 0) σ) := by
  exact (ts_unf E_X4_mend tb_X4_mend [50, 65] 60 _).trans rfl
set_option maxRecDepth 100000 in
set_option maxHeartbeats 2000000 in
theorem h_X4_mend_65 (v1 : Int32) (v2 : Int32) (v3 : Int32) (v4 : Int32) (v5 : Int32) (v6 : Int32) (σ : ts_S) : H_X4_mend_65 v1 v2 v3 v4 v5 v6 σ = (if v4 ≤ v6 then (H_X4_mend_50 v1 v2 v3 v4 (v5 + (nI 1)) σ) else ts_bi (F_J6_bitCount_0f7a4 [.inl v6] σ) fun x2 σ1 => if x2 = v5 then (ts_bi (F_X4_hasWhenMended [.inr (.inr (.inl (0, 0))), .inl v1, .inl v2, .inl v3, .inl v6] σ1) fun x4 σ3 => if x4 = nI 0 then (some (some (.inl v6), σ3)) else H_X4_mend_65 v1 v2 v3 v4 v5 (v6 + (nI 1)) σ3) else H_X4_mend_65 v1 v2 v3 v4 v5 (v6 + (nI 1)) σ1) := by
  exact (ts_unf E_X4_mend tb_X4_mend [50, 65] 60 _).trans rfl
noncomputable def H_X4_seek_63 (v1 : Int32) (v2 : Int32) (v3 : Int32) (σ : ts_S) : Option ts_A := ts_R E_X4_seek tb_X4_seek (63, [some (.inr (.inr (.inl (0, 0)))), some (.inl v1), some (.inl v2), some (.inl v3)], [], σ)
set_option maxRecDepth 100000 in
set_option maxHeartbeats 2000000 in
theorem e_X4_seek (a1 : Int32) (a2 : Int32) (σ : ts_S) : F_X4_seek [.inr (.inr (.inl (0, 0))), .inl a1, .inl a2] σ = (ts_bi (F_X1_isPerson [.inr (.inr (.inl (1, 0))), .inl a1] σ) fun x2 σ1 => if x2 = nI 0 then (ts_bi (F_X4_tell [.inr (.inr (.inl (0, 0))), .inl (nI 0)] σ1) fun x4 σ3 => some (some (.inl x4), σ3)) else ts_bi (F_X4_isBelow [.inl a2, .inl (nI 12)] σ1) fun x6 σ5 => if x6 = nI 0 then (ts_bi (F_X4_tell [.inr (.inr (.inl (0, 0))), .inl (nI 0)] σ5) fun x8 σ7 => some (some (.inl x8), σ7)) else ts_ck a1 6 <| if (σ5 1 8 (a1.toNatClampNeg)) = (-1) then (ts_bi (F_X1_hasWord [.inr (.inr (.inl (1, 0))), .inl a1, .inl a2] σ5) fun x10 σ9 => if x10 = nI 0 then (ts_bv (F_X4_beginTrial [.inr (.inr (.inl (0, 0)))] σ9) fun σ11 => H_X4_seek_63 a1 a2 (nI 0) σ11) else ts_bi (F_X4_tell [.inr (.inr (.inl (0, 0))), .inl (nI 4)] σ9) fun x13 σ12 => some (some (.inl x13), σ12)) else ts_bi (F_X4_tell [.inr (.inr (.inl (0, 0))), .inl (nI 4)] σ5) fun x15 σ14 => some (some (.inl x15), σ14)) := by
  exact (ts_unf E_X4_seek tb_X4_seek [63] 68 _).trans rfl
set_option maxRecDepth 100000 in
set_option maxHeartbeats 2000000 in
theorem h_X4_seek_63 (v1 : Int32) (v2 : Int32) (v3 : Int32) (σ : ts_S) : H_X4_seek_63 v1 v2 v3 σ = (if (σ 2 0 4) ≤ v3 then (ts_bi (F_X4_tell [.inr (.inr (.inl (0, 0))), .inl (nI 3)] σ) fun x2 σ1 => some (some (.inl x2), σ1)) else ts_bi (F_X1_makeCrossing [.inr (.inr (.inl (2, 0))), .inl v1, .inl v3] σ) fun x4 σ3 => ts_bi (F_X1_makeCrossing [.inr (.inr (.inl (2, 0))), .inl v1, .inl v3] σ3) fun x6 σ5 => ts_bi (F_X1_hasWord [.inr (.inr (.inl (2, 0))), .inl v1, .inl v2] σ5) fun x8 σ7 => if x8 = nI 0 then (H_X4_seek_63 v1 v2 (v3 + (nI 1)) σ7) else some (some (.inl v3), σ7)) := by
  exact (ts_unf E_X4_seek tb_X4_seek [63] 68 _).trans rfl
noncomputable def H_X4_hasAsTold_2 (v1 : Int32) (v2 : Int32) (v3 : Int32) (σ : ts_S) : Option ts_A := ts_R E_X4_hasAsTold tb_X4_hasAsTold (2, [some (.inr (.inr (.inl (0, 0)))), some (.inl v1), some (.inl v2), some (.inl v3)], [], σ)
set_option maxRecDepth 100000 in
set_option maxHeartbeats 2000000 in
theorem e_X4_hasAsTold (a1 : Int32) (a2 : Int32) (σ : ts_S) : F_X4_hasAsTold [.inr (.inr (.inl (0, 0))), .inl a1, .inl a2] σ = (H_X4_hasAsTold_2 a1 a2 (nI 0) σ) := by
  exact (ts_unf E_X4_hasAsTold tb_X4_hasAsTold [2] 35 _).trans rfl
set_option maxRecDepth 100000 in
set_option maxHeartbeats 2000000 in
theorem h_X4_hasAsTold_2 (v1 : Int32) (v2 : Int32) (v3 : Int32) (σ : ts_S) : H_X4_hasAsTold_2 v1 v2 v3 σ = (ts_ck v1 4 <| if (σ 5 2 (v1.toNatClampNeg)) ≤ v3 then (some (some (.inl (nI 1)), σ)) else if v3 ≤ nI 0 then (ts_ck v2 6 <| ts_bi (F_X2_admits [.inr (.inr (.inl (5, 0))), .inl v1, .inl v3, .inl (σ 2 7 (v2.toNatClampNeg))] σ) fun x2 σ1 => if x2 = nI 0 then (some (some (.inl (nI 0)), σ1)) else H_X4_hasAsTold_2 v1 v2 (v3 + (nI 1)) σ1) else ts_bv (F_X1_passDays [.inr (.inr (.inl (2, 0))), .inl (nI 1)] σ) fun σ3 => ts_ck v2 6 <| ts_bi (F_X2_admits [.inr (.inr (.inl (5, 0))), .inl v1, .inl v3, .inl (σ3 2 7 (v2.toNatClampNeg))] σ3) fun x5 σ4 => if x5 = nI 0 then (some (some (.inl (nI 0)), σ4)) else H_X4_hasAsTold_2 v1 v2 (v3 + (nI 1)) σ4) := by
  exact (ts_unf E_X4_hasAsTold tb_X4_hasAsTold [2] 35 _).trans rfl
noncomputable def H_X4_fits_62 (v1 : Int32) (v2 : Int32) (v3 : Int32) (v4 : Int32) (v5 : Int32) (σ : ts_S) : Option ts_A := ts_R E_X4_fits tb_X4_fits (62, [some (.inr (.inr (.inl (0, 0)))), some (.inl v1), some (.inl v2), some (.inl v3), some (.inl v4), some (.inl v5), none], [], σ)
noncomputable def H_X4_fits_72 (v1 : Int32) (v2 : Int32) (v3 : Int32) (v4 : Int32) (v5 : Int32) (v6 : Int32) (σ : ts_S) : Option ts_A := ts_R E_X4_fits tb_X4_fits (72, [some (.inr (.inr (.inl (0, 0)))), some (.inl v1), some (.inl v2), some (.inl v3), some (.inl v4), some (.inl v5), some (.inl v6)], [], σ)
set_option maxRecDepth 100000 in
set_option maxHeartbeats 2000000 in
theorem e_X4_fits (a1 : Int32) (a2 : Int32) (σ : ts_S) : F_X4_fits [.inr (.inr (.inl (0, 0))), .inl a1, .inl a2] σ = (ts_bi (F_X4_isBelow [.inl a1, .inl (nI 4)] σ) fun x2 σ1 => if x2 = nI 0 then (ts_bi (F_X4_tell [.inr (.inr (.inl (0, 0))), .inl (nI 0)] σ1) fun x4 σ3 => some (some (.inl x4), σ3)) else ts_bi (F_X2_isMissing [.inr (.inr (.inl (5, 0))), .inl a1] σ1) fun x6 σ5 => if x6 = nI 0 then (ts_bi (F_X1_isPerson [.inr (.inr (.inl (1, 0))), .inl a2] σ5) fun x8 σ7 => if x8 = nI 0 then (ts_bi (F_X4_tell [.inr (.inr (.inl (0, 0))), .inl (nI 0)] σ7) fun x10 σ9 => some (some (.inl x10), σ9)) else ts_bi (F_X1_placeOfToday [.inr (.inr (.inl (1, 0)))] σ7) fun x12 σ11 => H_X4_fits_62 a1 a2 x12 (nI 0) (nI 0) σ11) else ts_bi (F_X4_tell [.inr (.inr (.inl (0, 0))), .inl (nI 5)] σ5) fun x14 σ13 => some (some (.inl x14), σ13)) := by
  exact (ts_unf E_X4_fits tb_X4_fits [62, 72] 69 _).trans rfl
set_option maxRecDepth 100000 in
set_option maxHeartbeats 2000000 in
theorem h_X4_fits_62 (v1 : Int32) (v2 : Int32) (v3 : Int32) (v4 : Int32) (v5 : Int32) (σ : ts_S) : H_X4_fits_62 v1 v2 v3 v4 v5 σ = (if (nI 6) ≤ v5 then (some (some (.inl v4), σ)) else H_X4_fits_72 v1 v2 v3 v4 v5 (nI 0) σ) := by
  exact (ts_unf E_X4_fits tb_X4_fits [62, 72] 69 _).trans rfl
set_option maxRecDepth 100000 in
set_option maxHeartbeats 2000000 in
theorem h_X4_fits_72 (v1 : Int32) (v2 : Int32) (v3 : Int32) (v4 : Int32) (v5 : Int32) (v6 : Int32) (σ : ts_S) : H_X4_fits_72 v1 v2 v3 v4 v5 v6 σ = (if (nI 8) ≤ v6 then (H_X4_fits_62 v1 v2 v3 v4 (v5 + (nI 1)) σ) else ts_bv (F_X4_beginTrial [.inr (.inr (.inl (0, 0)))] σ) fun σ1 => ts_ck v3 6 <| ts_nw (ts_up σ1 2 1 (v3.toNatClampNeg) (((nI 10) * v5) + v6)) fun σ2 => ts_bi (F_X4_hasAsTold [.inr (.inr (.inl (0, 0))), .inl v1, .inl v2] σ2) fun x4 σ3 => if x4 = nI 0 then (H_X4_fits_72 v1 v2 v3 v4 v5 (v6 + (nI 1)) σ3) else H_X4_fits_72 v1 v2 v3 (v4 + (nI 1)) v5 (v6 + (nI 1)) σ3) := by
  exact (ts_unf E_X4_fits tb_X4_fits [62, 72] 69 _).trans rfl
noncomputable def H_X4_keepsAsTold_2 (v1 : Int32) (v2 : Int32) (v3 : Int32) (σ : ts_S) : Option ts_A := ts_R E_X4_keepsAsTold tb_X4_keepsAsTold (2, [some (.inr (.inr (.inl (0, 0)))), some (.inl v1), some (.inl v2), some (.inl v3)], [], σ)
set_option maxRecDepth 100000 in
set_option maxHeartbeats 2000000 in
theorem e_X4_keepsAsTold (a1 : Int32) (a2 : Int32) (σ : ts_S) : F_X4_keepsAsTold [.inr (.inr (.inl (0, 0))), .inl a1, .inl a2] σ = (H_X4_keepsAsTold_2 a1 a2 (nI 0) σ) := by
  exact (ts_unf E_X4_keepsAsTold tb_X4_keepsAsTold [2] 35 _).trans rfl
set_option maxRecDepth 100000 in
set_option maxHeartbeats 2000000 in
theorem h_X4_keepsAsTold_2 (v1 : Int32) (v2 : Int32) (v3 : Int32) (σ : ts_S) : H_X4_keepsAsTold_2 v1 v2 v3 σ = (ts_ck v1 4 <| if (σ 5 2 (v1.toNatClampNeg)) ≤ v3 then (some (some (.inl (nI 1)), σ)) else if v3 ≤ nI 0 then (ts_ck v2 8 <| ts_bi (F_X2_admits [.inr (.inr (.inl (5, 0))), .inl v1, .inl v3, .inl (σ 2 5 (v2.toNatClampNeg))] σ) fun x2 σ1 => if x2 = nI 0 then (some (some (.inl (nI 0)), σ1)) else H_X4_keepsAsTold_2 v1 v2 (v3 + (nI 1)) σ1) else ts_bv (F_X1_passDays [.inr (.inr (.inl (2, 0))), .inl (nI 1)] σ) fun σ3 => ts_ck v2 8 <| ts_bi (F_X2_admits [.inr (.inr (.inl (5, 0))), .inl v1, .inl v3, .inl (σ3 2 5 (v2.toNatClampNeg))] σ3) fun x5 σ4 => if x5 = nI 0 then (some (some (.inl (nI 0)), σ4)) else H_X4_keepsAsTold_2 v1 v2 (v3 + (nI 1)) σ4) := by
  exact (ts_unf E_X4_keepsAsTold tb_X4_keepsAsTold [2] 35 _).trans rfl
noncomputable def H_X4_kinds_53 (v1 : Int32) (v2 : Int32) (v3 : Int32) (v4 : Int32) (σ : ts_S) : Option ts_A := ts_R E_X4_kinds tb_X4_kinds (53, [some (.inr (.inr (.inl (0, 0)))), some (.inl v1), some (.inl v2), some (.inl v3), some (.inl v4)], [], σ)
set_option maxRecDepth 100000 in
set_option maxHeartbeats 2000000 in
theorem e_X4_kinds (a1 : Int32) (a2 : Int32) (σ : ts_S) : F_X4_kinds [.inr (.inr (.inl (0, 0))), .inl a1, .inl a2] σ = (ts_bi (F_X4_isBelow [.inl a1, .inl (nI 4)] σ) fun x2 σ1 => if x2 = nI 0 then (ts_bi (F_X4_tell [.inr (.inr (.inl (0, 0))), .inl (nI 0)] σ1) fun x4 σ3 => some (some (.inl x4), σ3)) else ts_bi (F_X2_isMissing [.inr (.inr (.inl (5, 0))), .inl a1] σ1) fun x6 σ5 => if x6 = nI 0 then (ts_bi (F_X1_isSill [.inr (.inr (.inl (1, 0))), .inl a2] σ5) fun x8 σ7 => if x8 = nI 0 then (ts_bi (F_X4_tell [.inr (.inr (.inl (0, 0))), .inl (nI 0)] σ7) fun x10 σ9 => some (some (.inl x10), σ9)) else H_X4_kinds_53 a1 a2 (nI 0) (nI 0) σ7) else ts_bi (F_X4_tell [.inr (.inr (.inl (0, 0))), .inl (nI 5)] σ5) fun x12 σ11 => some (some (.inl x12), σ11)) := by
  exact (ts_unf E_X4_kinds tb_X4_kinds [53] 59 _).trans rfl
set_option maxRecDepth 100000 in
set_option maxHeartbeats 2000000 in
theorem h_X4_kinds_53 (v1 : Int32) (v2 : Int32) (v3 : Int32) (v4 : Int32) (σ : ts_S) : H_X4_kinds_53 v1 v2 v3 v4 σ = (if (nI 7) ≤ v4 then (some (some (.inl v3), σ)) else ts_bv (F_X4_beginTrial [.inr (.inr (.inl (0, 0)))] σ) fun σ1 => ts_ck v2 8 <| ts_nw (ts_up σ1 2 2 (v2.toNatClampNeg) v4) fun σ2 => ts_bi (F_X4_keepsAsTold [.inr (.inr (.inl (0, 0))), .inl v1, .inl v2] σ2) fun x4 σ3 => if x4 = nI 0 then (H_X4_kinds_53 v1 v2 v3 (v4 + (nI 1)) σ3) else ts_ni (v3 ||| ((nI 1) <<< (v4 &&& nI 31))) fun y5 => H_X4_kinds_53 v1 v2 y5 (v4 + (nI 1)) σ3) := by
  exact (ts_unf E_X4_kinds tb_X4_kinds [53] 59 _).trans rfl
noncomputable def H_X4_stroll_38 (v1 : Int32) (v2 : Int32) (σ : ts_S) : Option ts_A := ts_R E_X4_stroll tb_X4_stroll (38, [some (.inr (.inr (.inl (0, 0)))), some (.inl v1), some (.inl v2), none, none], [], σ)
set_option maxRecDepth 100000 in
set_option maxHeartbeats 2000000 in
theorem e_X4_stroll (a1 : Int32) (σ : ts_S) : F_X4_stroll [.inr (.inr (.inl (0, 0))), .inl a1] σ = (ts_bi (F_X4_isWithin [.inl a1, .inl (nI 1), .inl (nI 20)] σ) fun x2 σ1 => if x2 = nI 0 then (ts_bi (F_X4_tell [.inr (.inr (.inl (0, 0))), .inl (nI 0)] σ1) fun x4 σ3 => some (some (.inl x4), σ3)) else if ((σ1 1 0 2) + a1) ≤ (nI 99999) then (H_X4_stroll_38 a1 (nI 0) σ1) else ts_bi (F_X4_tell [.inr (.inr (.inl (0, 0))), .inl (nI 4)] σ1) fun x6 σ5 => some (some (.inl x6), σ5)) := by
  exact (ts_unf E_X4_stroll tb_X4_stroll [38] 62 _).trans rfl
set_option maxRecDepth 100000 in
set_option maxHeartbeats 2000000 in
theorem h_X4_stroll_38 (v1 : Int32) (v2 : Int32) (σ : ts_S) : H_X4_stroll_38 v1 v2 σ = (if v1 ≤ v2 then (some (some (.inl (σ 1 0 1)), σ)) else ts_bi (F_X1_draw [.inr (.inr (.inl (1, 0)))] σ) fun x2 σ1 => ts_ni (x2 - x2 / (nI 6) * (nI 6)) fun y3 => ts_bi (F_X1_draw [.inr (.inr (.inl (1, 0)))] σ1) fun x5 σ4 => ts_ni (x5 - x5 / (nI 8) * (nI 8)) fun y6 => ts_bi (F_X1_placeOfToday [.inr (.inr (.inl (1, 0)))] σ4) fun x8 σ7 => ts_ck x8 6 <| ts_nw (ts_up σ7 1 1 (x8.toNatClampNeg) (((nI 10) * y3) + y6)) fun σ9 => ts_bv (F_X1_passDays [.inr (.inr (.inl (1, 0))), .inl (nI 1)] σ9) fun σ10 => H_X4_stroll_38 v1 (v2 + (nI 1)) σ10) := by
  exact (ts_unf E_X4_stroll tb_X4_stroll [38] 62 _).trans rfl
noncomputable def H_X4_commonDivisor_2 (v0 : Int32) (v1 : Int32) (v2 : Int32) (σ : ts_S) : Option ts_A := ts_R E_X4_commonDivisor tb_X4_commonDivisor (2, [some (.inl v0), some (.inl v1), some (.inl v2)], [], σ)
set_option maxRecDepth 100000 in
set_option maxHeartbeats 2000000 in
theorem e_X4_commonDivisor (a1 : Int32) (a2 : Int32) (σ : ts_S) : F_X4_commonDivisor [.inl a1, .inl a2] σ = (H_X4_commonDivisor_2 a1 a2 a2 σ) := by
  exact (ts_unf E_X4_commonDivisor tb_X4_commonDivisor [2] 22 _).trans rfl
set_option maxRecDepth 100000 in
set_option maxHeartbeats 2000000 in
theorem h_X4_commonDivisor_2 (v0 : Int32) (v1 : Int32) (v2 : Int32) (σ : ts_S) : H_X4_commonDivisor_2 v0 v1 v2 σ = (if v2 ≤ (nI 1) then (some (some (.inl (nI 1)), σ)) else if v2 = nI 0 then none else if (v0 - v0 / v2 * v2) = nI 0 then (if v2 = nI 0 then none else if (v1 - v1 / v2 * v2) = nI 0 then (some (some (.inl v2), σ)) else H_X4_commonDivisor_2 v0 v1 (v2 + (-1)) σ) else H_X4_commonDivisor_2 v0 v1 (v2 + (-1)) σ) := by
  exact (ts_unf E_X4_commonDivisor tb_X4_commonDivisor [2] 22 _).trans rfl
noncomputable def H_X4_power_5 (v0 : Int32) (v1 : Int32) (v2 : Int64) (v4 : Int32) (σ : ts_S) : Option ts_A := ts_R E_X4_power tb_X4_power (5, [some (.inl v0), some (.inl v1), some (.inr (.inl v2)), none, some (.inl v4)], [], σ)
set_option maxRecDepth 100000 in
set_option maxHeartbeats 2000000 in
theorem e_X4_power (a1 : Int32) (a2 : Int32) (σ : ts_S) : F_X4_power [.inl a1, .inl a2] σ = (H_X4_power_5 a1 a2 1 (nI 0) σ) := by
  exact (ts_unf E_X4_power tb_X4_power [5] 19 _).trans rfl
set_option maxRecDepth 100000 in
set_option maxHeartbeats 2000000 in
theorem h_X4_power_5 (v0 : Int32) (v1 : Int32) (v2 : Int64) (v4 : Int32) (σ : ts_S) : H_X4_power_5 v0 v1 v2 v4 σ = (if v1 ≤ v4 then (some (some (.inr (.inl v2)), σ)) else ts_nj (v2 * (Int32.toInt64 v0)) fun y1 => H_X4_power_5 v0 v1 y1 (v4 + (nI 1)) σ) := by
  exact (ts_unf E_X4_power tb_X4_power [5] 19 _).trans rfl
set_option maxRecDepth 100000 in
set_option maxHeartbeats 2000000 in
theorem e_X4_odds (a1 : Int32) (a2 : Int32) (a3 : Int32) (σ : ts_S) : F_X4_odds [.inr (.inr (.inl (0, 0))), .inl a1, .inl a2, .inl a3] σ = (ts_bi (F_X1_isPerson [.inr (.inr (.inl (1, 0))), .inl a1] σ) fun x2 σ1 => if x2 = nI 0 then (ts_bi (F_X4_tell [.inr (.inr (.inl (0, 0))), .inl (nI 0)] σ1) fun x4 σ3 => some (some (.inr (.inl (Int32.toInt64 x4))), σ3)) else ts_bi (F_X4_isWithin [.inl a2, .inl (nI 0), .inl (nI 17)] σ1) fun x6 σ5 => if x6 = nI 0 then (ts_bi (F_X4_tell [.inr (.inr (.inl (0, 0))), .inl (nI 0)] σ5) fun x8 σ7 => some (some (.inr (.inl (Int32.toInt64 x8))), σ7)) else ts_bi (F_X4_isWithin [.inl a3, .inl (nI 0), .inl (nI 1)] σ5) fun x10 σ9 => if x10 = nI 0 then (ts_bi (F_X4_tell [.inr (.inr (.inl (0, 0))), .inl (nI 0)] σ9) fun x12 σ11 => some (some (.inr (.inl (Int32.toInt64 x12))), σ11)) else ts_ck a1 6 <| ts_bi (F_J6_bitCount_0f7a4 [.inl (σ9 1 7 (a1.toNatClampNeg))] σ9) fun x14 σ13 => ts_bi (F_X4_commonDivisor [.inl x14, .inl (nI 12)] σ13) fun x16 σ15 => if a3 = nI 0 then (if x16 = nI 0 then none else ts_bl (F_X4_power [.inl (x14 / x16), .inl a2] σ15) fun x18 σ17 => some (some (.inr (.inl x18)), σ17)) else if x16 = nI 0 then none else ts_bl (F_X4_power [.inl ((nI 12) / x16), .inl a2] σ15) fun x20 σ19 => some (some (.inr (.inl x20)), σ19)) := by
  exact (ts_unf E_X4_odds tb_X4_odds [] 44 _).trans rfl
set_option maxRecDepth 100000 in
set_option maxHeartbeats 2000000 in
theorem e_X4_seed (a1 : Int32) (σ : ts_S) : F_X4_seed [.inr (.inr (.inl (0, 0))), .inl a1] σ = (ts_ni (σ 1 0 3) fun y1 => ts_nw (ts_up σ 1 0 3 a1) fun σ2 => some (some (.inl y1), σ2)) := by
  exact (ts_unf E_X4_seed tb_X4_seed [] 13 _).trans rfl
set_option maxRecDepth 100000 in
set_option maxHeartbeats 2000000 in
theorem e_X4_feed (a1 : Int32) (a2 : Int32) (σ : ts_S) : F_X4_feed [.inr (.inr (.inl (0, 0))), .inl a1, .inl a2] σ = (ts_bi (F_X4_isWithin [.inl a2, .inl (nI 1), .inl (nI 4)] σ) fun x2 σ1 => if x2 = nI 0 then (ts_bi (F_X4_tell [.inr (.inr (.inl (0, 0))), .inl (nI 0)] σ1) fun x4 σ3 => some (some (.inl x4), σ3)) else ts_bi (F_X3_append [.inr (.inr (.inl (4, 0))), .inl a1, .inl a2] σ1) fun x6 σ5 => if x6 = nI 0 then (ts_bi (F_X4_tell [.inr (.inr (.inl (0, 0))), .inl (nI 1)] σ5) fun x8 σ7 => some (some (.inl x8), σ7)) else some (some (.inl (σ5 4 0 1)), σ5)) := by
  exact (ts_unf E_X4_feed tb_X4_feed [] 26 _).trans rfl
set_option maxRecDepth 100000 in
set_option maxHeartbeats 2000000 in
theorem e_X4_wipe (σ : ts_S) : F_X4_wipe [.inr (.inr (.inl (0, 0)))] σ = (ts_ni (σ 4 0 1) fun y1 => ts_nw (ts_up σ 4 0 1 (nI 0)) fun σ2 => some (some (.inl y1), σ2)) := by
  exact (ts_unf E_X4_wipe tb_X4_wipe [] 13 _).trans rfl
set_option maxRecDepth 100000 in
set_option maxHeartbeats 2000000 in
theorem e_X4_text (σ : ts_S) : F_X4_text [.inr (.inr (.inl (0, 0)))] σ = (ts_bv (F_X4_beginTrial [.inr (.inr (.inl (0, 0)))] σ) fun σ1 => ts_bi (F_X3_readItems [.inr (.inr (.inl (4, 0))), .inr (.inr (.inl (2, 0)))] σ1) fun x3 σ2 => if x3 < nI 0 then (ts_nw (ts_up σ2 4 0 1 (nI 0)) fun σ4 => some (some (.inl x3), σ4)) else ts_bv (F_X1_become [.inr (.inr (.inl (1, 0))), .inr (.inr (.inl (2, 0)))] σ2) fun σ5 => ts_nw (ts_up σ5 4 0 1 (nI 0)) fun σ6 => some (some (.inl x3), σ6)) := by
  exact (ts_unf E_X4_text tb_X4_text [] 24 _).trans rfl
set_option maxRecDepth 100000 in
set_option maxHeartbeats 2000000 in
theorem e_X4_hold (a1 : Int32) (a2 : Int32) (σ : ts_S) : F_X4_hold [.inr (.inr (.inl (0, 0))), .inl a1, .inl a2] σ = (ts_bi (F_X4_isBelow [.inl a1, .inl (nI 10)] σ) fun x2 σ1 => if x2 = nI 0 then (ts_bi (F_X4_tell [.inr (.inr (.inl (0, 0))), .inl (nI 0)] σ1) fun x4 σ3 => some (some (.inl x4), σ3)) else if a2 = (-1) then (ts_ck a1 10 <| ts_nw (ts_up σ1 1 10 (a1.toNatClampNeg) a2) fun σ5 => some (some (.inl (nI 1)), σ5)) else ts_bi (F_X1_isSill [.inr (.inr (.inl (1, 0))), .inl a2] σ1) fun x7 σ6 => if x7 = nI 0 then (ts_bi (F_X4_tell [.inr (.inr (.inl (0, 0))), .inl (nI 0)] σ6) fun x9 σ8 => some (some (.inl x9), σ8)) else ts_ck a1 10 <| ts_nw (ts_up σ6 1 10 (a1.toNatClampNeg) a2) fun σ10 => some (some (.inl (nI 1)), σ10)) := by
  exact (ts_unf E_X4_hold tb_X4_hold [] 27 _).trans rfl
set_option maxRecDepth 100000 in
set_option maxHeartbeats 2000000 in
theorem e_X4_as (a1 : Int32) (a2 : Int32) (σ : ts_S) : F_X4_as [.inr (.inr (.inl (0, 0))), .inl a1, .inl a2] σ = (ts_bi (F_X4_isBelow [.inl a1, .inl (nI 10)] σ) fun x2 σ1 => if x2 = nI 0 then (ts_bi (F_X4_tell [.inr (.inr (.inl (0, 0))), .inl (nI 0)] σ1) fun x4 σ3 => some (some (.inl x4), σ3)) else ts_bi (F_X4_isBelow [.inl a2, .inl (nI 7)] σ1) fun x6 σ5 => if x6 = nI 0 then (ts_bi (F_X4_tell [.inr (.inr (.inl (0, 0))), .inl (nI 0)] σ5) fun x8 σ7 => some (some (.inl x8), σ7)) else ts_ck a1 10 <| ts_ni (σ5 1 10 (a1.toNatClampNeg)) fun y9 => ts_bi (F_X1_isSill [.inr (.inr (.inl (1, 0))), .inl y9] σ5) fun x11 σ10 => if x11 = nI 0 then (ts_bi (F_X4_tell [.inr (.inr (.inl (0, 0))), .inl (nI 5)] σ10) fun x13 σ12 => some (some (.inl x13), σ12)) else ts_ck y9 8 <| ts_bi (F_X0_isUnder [.inl (σ10 1 2 (y9.toNatClampNeg)), .inl a2] σ10) fun x15 σ14 => if x15 = nI 0 then (ts_bi (F_X4_tell [.inr (.inr (.inl (0, 0))), .inl (nI 2)] σ14) fun x17 σ16 => some (some (.inl x17), σ16)) else some (some (.inl y9), σ14)) := by
  exact (ts_unf E_X4_as tb_X4_as [] 44 _).trans rfl
set_option maxRecDepth 100000 in
set_option maxHeartbeats 2000000 in
theorem e_X4_sheet (a1 : Int32) (a2 : Int32) (a3 : Int32) (σ : ts_S) : F_X4_sheet [.inr (.inr (.inl (0, 0))), .inl a1, .inl a2, .inl a3] σ = (if a2 = nI 0 then (ts_bi (F_X4_isBelow [.inl a1, .inl (nI 4)] σ) fun x2 σ1 => if x2 = nI 0 then (ts_bi (F_X4_tell [.inr (.inr (.inl (0, 0))), .inl (nI 0)] σ1) fun x4 σ3 => some (some (.inl x4), σ3)) else if (nI 1) = nI 0 then (ts_bi (F_X4_tell [.inr (.inr (.inl (0, 0))), .inl (nI 0)] σ1) fun x6 σ5 => some (some (.inl x6), σ5)) else if nI 0 ≤ a3 then (if a3 ≤ (nI 40) then (if a2 = nI 0 then (ts_bv (F_X2_layOut [.inr (.inr (.inl (5, 0))), .inl a1, .inl a2, .inl (nI 0)] σ1) fun σ7 => ts_ck a1 4 <| some (some (.inl (σ7 5 2 (a1.toNatClampNeg))), σ7)) else ts_bv (F_X2_layOut [.inr (.inr (.inl (5, 0))), .inl a1, .inl a2, .inl a3] σ1) fun σ8 => ts_ck a1 4 <| some (some (.inl (σ8 5 2 (a1.toNatClampNeg))), σ8)) else ts_bi (F_X4_tell [.inr (.inr (.inl (0, 0))), .inl (nI 0)] σ1) fun x10 σ9 => some (some (.inl x10), σ9)) else ts_bi (F_X4_tell [.inr (.inr (.inl (0, 0))), .inl (nI 6)] σ1) fun x12 σ11 => some (some (.inl x12), σ11)) else if a2 = (nI 8) then (ts_bi (F_X4_isBelow [.inl a1, .inl (nI 4)] σ) fun x14 σ13 => if x14 = nI 0 then (ts_bi (F_X4_tell [.inr (.inr (.inl (0, 0))), .inl (nI 0)] σ13) fun x16 σ15 => some (some (.inl x16), σ15)) else if (nI 1) = nI 0 then (ts_bi (F_X4_tell [.inr (.inr (.inl (0, 0))), .inl (nI 0)] σ13) fun x18 σ17 => some (some (.inl x18), σ17)) else if nI 0 ≤ a3 then (if a3 ≤ (nI 40) then (if a2 = nI 0 then (ts_bv (F_X2_layOut [.inr (.inr (.inl (5, 0))), .inl a1, .inl a2, .inl (nI 0)] σ13) fun σ19 => ts_ck a1 4 <| some (some (.inl (σ19 5 2 (a1.toNatClampNeg))), σ19)) else ts_bv (F_X2_layOut [.inr (.inr (.inl (5, 0))), .inl a1, .inl a2, .inl a3] σ13) fun σ20 => ts_ck a1 4 <| some (some (.inl (σ20 5 2 (a1.toNatClampNeg))), σ20)) else ts_bi (F_X4_tell [.inr (.inr (.inl (0, 0))), .inl (nI 0)] σ13) fun x22 σ21 => some (some (.inl x22), σ21)) else ts_bi (F_X4_tell [.inr (.inr (.inl (0, 0))), .inl (nI 6)] σ13) fun x24 σ23 => some (some (.inl x24), σ23)) else if a2 = (nI 16) then (ts_bi (F_X4_isBelow [.inl a1, .inl (nI 4)] σ) fun x26 σ25 => if x26 = nI 0 then (ts_bi (F_X4_tell [.inr (.inr (.inl (0, 0))), .inl (nI 0)] σ25) fun x28 σ27 => some (some (.inl x28), σ27)) else if (nI 1) = nI 0 then (ts_bi (F_X4_tell [.inr (.inr (.inl (0, 0))), .inl (nI 0)] σ25) fun x30 σ29 => some (some (.inl x30), σ29)) else if nI 0 ≤ a3 then (if a3 ≤ (nI 40) then (if a2 = nI 0 then (ts_bv (F_X2_layOut [.inr (.inr (.inl (5, 0))), .inl a1, .inl a2, .inl (nI 0)] σ25) fun σ31 => ts_ck a1 4 <| some (some (.inl (σ31 5 2 (a1.toNatClampNeg))), σ31)) else ts_bv (F_X2_layOut [.inr (.inr (.inl (5, 0))), .inl a1, .inl a2, .inl a3] σ25) fun σ32 => ts_ck a1 4 <| some (some (.inl (σ32 5 2 (a1.toNatClampNeg))), σ32)) else ts_bi (F_X4_tell [.inr (.inr (.inl (0, 0))), .inl (nI 0)] σ25) fun x34 σ33 => some (some (.inl x34), σ33)) else ts_bi (F_X4_tell [.inr (.inr (.inl (0, 0))), .inl (nI 6)] σ25) fun x36 σ35 => some (some (.inl x36), σ35)) else if a2 = (nI 32) then (ts_bi (F_X4_isBelow [.inl a1, .inl (nI 4)] σ) fun x38 σ37 => if x38 = nI 0 then (ts_bi (F_X4_tell [.inr (.inr (.inl (0, 0))), .inl (nI 0)] σ37) fun x40 σ39 => some (some (.inl x40), σ39)) else if (nI 1) = nI 0 then (ts_bi (F_X4_tell [.inr (.inr (.inl (0, 0))), .inl (nI 0)] σ37) fun x42 σ41 => some (some (.inl x42), σ41)) else if nI 0 ≤ a3 then (if a3 ≤ (nI 40) then (if a2 = nI 0 then (ts_bv (F_X2_layOut [.inr (.inr (.inl (5, 0))), .inl a1, .inl a2, .inl (nI 0)] σ37) fun σ43 => ts_ck a1 4 <| some (some (.inl (σ43 5 2 (a1.toNatClampNeg))), σ43)) else ts_bv (F_X2_layOut [.inr (.inr (.inl (5, 0))), .inl a1, .inl a2, .inl a3] σ37) fun σ44 => ts_ck a1 4 <| some (some (.inl (σ44 5 2 (a1.toNatClampNeg))), σ44)) else ts_bi (F_X4_tell [.inr (.inr (.inl (0, 0))), .inl (nI 0)] σ37) fun x46 σ45 => some (some (.inl x46), σ45)) else ts_bi (F_X4_tell [.inr (.inr (.inl (0, 0))), .inl (nI 6)] σ37) fun x48 σ47 => some (some (.inl x48), σ47)) else ts_bi (F_X4_isBelow [.inl a1, .inl (nI 4)] σ) fun x50 σ49 => if x50 = nI 0 then (ts_bi (F_X4_tell [.inr (.inr (.inl (0, 0))), .inl (nI 0)] σ49) fun x52 σ51 => some (some (.inl x52), σ51)) else if (nI 0) = nI 0 then (ts_bi (F_X4_tell [.inr (.inr (.inl (0, 0))), .inl (nI 0)] σ49) fun x54 σ53 => some (some (.inl x54), σ53)) else if nI 0 ≤ a3 then (if a3 ≤ (nI 40) then (if a2 = nI 0 then (ts_bv (F_X2_layOut [.inr (.inr (.inl (5, 0))), .inl a1, .inl a2, .inl (nI 0)] σ49) fun σ55 => ts_ck a1 4 <| some (some (.inl (σ55 5 2 (a1.toNatClampNeg))), σ55)) else ts_bv (F_X2_layOut [.inr (.inr (.inl (5, 0))), .inl a1, .inl a2, .inl a3] σ49) fun σ56 => ts_ck a1 4 <| some (some (.inl (σ56 5 2 (a1.toNatClampNeg))), σ56)) else ts_bi (F_X4_tell [.inr (.inr (.inl (0, 0))), .inl (nI 0)] σ49) fun x58 σ57 => some (some (.inl x58), σ57)) else ts_bi (F_X4_tell [.inr (.inr (.inl (0, 0))), .inl (nI 6)] σ49) fun x60 σ59 => some (some (.inl x60), σ59)) := by
  exact (ts_unf E_X4_sheet tb_X4_sheet [] 57 _).trans rfl
set_option maxRecDepth 100000 in
set_option maxHeartbeats 2000000 in
theorem e_X4_write (a1 : Int32) (a2 : Int32) (a3 : Int32) (σ : ts_S) : F_X4_write [.inr (.inr (.inl (0, 0))), .inl a1, .inl a2, .inl a3] σ = (ts_bi (F_X4_isBelow [.inl a1, .inl (nI 4)] σ) fun x2 σ1 => if x2 = nI 0 then (ts_bi (F_X4_tell [.inr (.inr (.inl (0, 0))), .inl (nI 0)] σ1) fun x4 σ3 => some (some (.inl x4), σ3)) else ts_bi (F_X2_isMissing [.inr (.inr (.inl (5, 0))), .inl a1] σ1) fun x6 σ5 => if x6 = nI 0 then (ts_ck a1 4 <| ts_bi (F_X4_isBelow [.inl a2, .inl (σ5 5 2 (a1.toNatClampNeg))] σ5) fun x8 σ7 => if x8 = nI 0 then (ts_bi (F_X4_tell [.inr (.inr (.inl (0, 0))), .inl (nI 0)] σ7) fun x10 σ9 => some (some (.inl x10), σ9)) else ts_bv (F_X2_put [.inr (.inr (.inl (5, 0))), .inl a1, .inl a2, .inl a3] σ7) fun σ11 => some (some (.inl (nI 1)), σ11)) else ts_bi (F_X4_tell [.inr (.inr (.inl (0, 0))), .inl (nI 5)] σ5) fun x13 σ12 => some (some (.inl x13), σ12)) := by
  exact (ts_unf E_X4_write tb_X4_write [] 40 _).trans rfl
set_option maxRecDepth 100000 in
set_option maxHeartbeats 2000000 in
theorem e_X4_copy (a1 : Int32) (a2 : Int32) (a3 : Int32) (a4 : Int32) (a5 : Int32) (σ : ts_S) : F_X4_copy [.inr (.inr (.inl (0, 0))), .inl a1, .inl a2, .inl a3, .inl a4, .inl a5] σ = (ts_bi (F_X4_isBelow [.inl a1, .inl (nI 4)] σ) fun x2 σ1 => if x2 = nI 0 then (ts_bi (F_X4_tell [.inr (.inr (.inl (0, 0))), .inl (nI 0)] σ1) fun x4 σ3 => some (some (.inl x4), σ3)) else ts_bi (F_X4_isBelow [.inl a3, .inl (nI 4)] σ1) fun x6 σ5 => if x6 = nI 0 then (ts_bi (F_X4_tell [.inr (.inr (.inl (0, 0))), .inl (nI 0)] σ5) fun x8 σ7 => some (some (.inl x8), σ7)) else ts_bi (F_X2_isMissing [.inr (.inr (.inl (5, 0))), .inl a1] σ5) fun x10 σ9 => if x10 = nI 0 then (ts_bi (F_X2_isMissing [.inr (.inr (.inl (5, 0))), .inl a3] σ9) fun x12 σ11 => if x12 = nI 0 then (ts_ck a1 4 <| ts_ck a3 4 <| if (σ11 5 1 (a1.toNatClampNeg)) = (σ11 5 1 (a3.toNatClampNeg)) then (ts_bi (F_X2_hasRange [.inr (.inr (.inl (5, 0))), .inl a1, .inl a2, .inl a5] σ11) fun x14 σ13 => if x14 = nI 0 then (ts_bi (F_X4_tell [.inr (.inr (.inl (0, 0))), .inl (nI 0)] σ13) fun x16 σ15 => some (some (.inl x16), σ15)) else ts_bi (F_X2_hasRange [.inr (.inr (.inl (5, 0))), .inl a3, .inl a4, .inl a5] σ13) fun x18 σ17 => if x18 = nI 0 then (ts_bi (F_X4_tell [.inr (.inr (.inl (0, 0))), .inl (nI 0)] σ17) fun x20 σ19 => some (some (.inl x20), σ19)) else ts_bv (F_X2_move [.inr (.inr (.inl (5, 0))), .inl a1, .inl a2, .inl a3, .inl a4, .inl a5] σ17) fun σ21 => some (some (.inl a5), σ21)) else ts_bi (F_X4_tell [.inr (.inr (.inl (0, 0))), .inl (nI 2)] σ11) fun x23 σ22 => some (some (.inl x23), σ22)) else ts_bi (F_X4_tell [.inr (.inr (.inl (0, 0))), .inl (nI 5)] σ11) fun x25 σ24 => some (some (.inl x25), σ24)) else ts_bi (F_X4_tell [.inr (.inr (.inl (0, 0))), .inl (nI 5)] σ9) fun x27 σ26 => some (some (.inl x27), σ26)) := by
  exact (ts_unf E_X4_copy tb_X4_copy [] 72 _).trans rfl
noncomputable def H_X4_load_53 (v1 : Int32) (v2 : Int32) (v3 : Int32) (σ : ts_S) : Option ts_A := ts_R E_X4_load tb_X4_load (53, [some (.inr (.inr (.inl (0, 0)))), some (.inl v1), some (.inl v2), some (.inl v3), none], [], σ)
set_option maxRecDepth 100000 in
set_option maxHeartbeats 2000000 in
theorem e_X4_load (a1 : Int32) (σ : ts_S) : F_X4_load [.inr (.inr (.inl (0, 0))), .inl a1] σ = (ts_bi (F_X4_isBelow [.inl a1, .inl (nI 4)] σ) fun x2 σ1 => if x2 = nI 0 then (ts_bi (F_X4_tell [.inr (.inr (.inl (0, 0))), .inl (nI 0)] σ1) fun x4 σ3 => some (some (.inl x4), σ3)) else ts_bi (F_X2_isMissing [.inr (.inr (.inl (5, 0))), .inl a1] σ1) fun x6 σ5 => if x6 = nI 0 then (ts_ck a1 4 <| ts_bi (F_J9_min_7cf53 [.inl (σ5 5 2 (a1.toNatClampNeg)), .inl (σ5 1 0 10)] σ5) fun x8 σ7 => H_X4_load_53 a1 x8 (nI 0) σ7) else ts_bi (F_X4_tell [.inr (.inr (.inl (0, 0))), .inl (nI 5)] σ5) fun x10 σ9 => some (some (.inl x10), σ9)) := by
  exact (ts_unf E_X4_load tb_X4_load [53] 58 _).trans rfl
set_option maxRecDepth 100000 in
set_option maxHeartbeats 2000000 in
theorem h_X4_load_53 (v1 : Int32) (v2 : Int32) (v3 : Int32) (σ : ts_S) : H_X4_load_53 v1 v2 v3 σ = (if v2 ≤ v3 then (some (some (.inl v2), σ)) else ts_bi (F_X2_numberAt [.inr (.inr (.inl (5, 0))), .inl v1, .inl v3] σ) fun x2 σ1 => ts_bi (F_X4_isWithin [.inl x2, .inl (nI 0), .inl (nI 4095)] σ1) fun x4 σ3 => if x4 = nI 0 then (some (some (.inl v3), σ3)) else ts_ck v3 6 <| ts_nw (ts_up σ3 1 7 (v3.toNatClampNeg) x2) fun σ5 => H_X4_load_53 v1 v2 (v3 + (nI 1)) σ5) := by
  exact (ts_unf E_X4_load tb_X4_load [53] 58 _).trans rfl
noncomputable def H_X4_judge_33 (v1 : Int32) (v2 : Int32) (σ : ts_S) : Option ts_A := ts_R E_X4_judge tb_X4_judge (33, [some (.inr (.inr (.inl (0, 0)))), some (.inl v1), some (.inl v2), none], [], σ)
set_option maxRecDepth 100000 in
set_option maxHeartbeats 2000000 in
theorem e_X4_judge (a1 : Int32) (σ : ts_S) : F_X4_judge [.inr (.inr (.inl (0, 0))), .inl a1] σ = (ts_bi (F_X4_isBelow [.inl a1, .inl (nI 4)] σ) fun x2 σ1 => if x2 = nI 0 then (ts_bi (F_X4_tell [.inr (.inr (.inl (0, 0))), .inl (nI 0)] σ1) fun x4 σ3 => some (some (.inl x4), σ3)) else ts_bi (F_X2_isMissing [.inr (.inr (.inl (5, 0))), .inl a1] σ1) fun x6 σ5 => if x6 = nI 0 then (H_X4_judge_33 a1 (nI 0) σ5) else ts_bi (F_X4_tell [.inr (.inr (.inl (0, 0))), .inl (nI 5)] σ5) fun x8 σ7 => some (some (.inl x8), σ7)) := by
  exact (ts_unf E_X4_judge tb_X4_judge [33] 53 _).trans rfl
set_option maxRecDepth 100000 in
set_option maxHeartbeats 2000000 in
theorem h_X4_judge_33 (v1 : Int32) (v2 : Int32) (σ : ts_S) : H_X4_judge_33 v1 v2 σ = (ts_ck v1 4 <| if (σ 5 2 (v1.toNatClampNeg)) ≤ v2 then (some (some (.inl (nI 0)), σ)) else ts_bi (F_X1_keptAt [.inr (.inr (.inl (1, 0))), .inl (nI 0), .inl v2] σ) fun x2 σ1 => if x2 = (-1) then (some (some (.inl ((nI 1) + v2)), σ1)) else ts_bi (F_X2_numberAt [.inr (.inr (.inl (5, 0))), .inl v1, .inl v2] σ1) fun x4 σ3 => if x2 = x4 then (H_X4_judge_33 v1 (v2 + (nI 1)) σ3) else some (some (.inl ((nI 1) + v2)), σ3)) := by
  exact (ts_unf E_X4_judge tb_X4_judge [33] 53 _).trans rfl
set_option maxRecDepth 100000 in
set_option maxHeartbeats 2000000 in
theorem e_X4_image (σ : ts_S) : F_X4_image [.inr (.inr (.inl (0, 0)))] σ = (ts_bv (F_X1_become [.inr (.inr (.inl (3, 0))), .inr (.inr (.inl (1, 0)))] σ) fun σ1 => ts_nw (ts_up σ1 0 0 3 (nI 1)) fun σ2 => some (some (.inl (nI 1)), σ2)) := by
  exact (ts_unf E_X4_image tb_X4_image [] 13 _).trans rfl
set_option maxRecDepth 100000 in
set_option maxHeartbeats 2000000 in
theorem e_X4_undo (σ : ts_S) : F_X4_undo [.inr (.inr (.inl (0, 0)))] σ = (if (σ 0 0 3) = nI 0 then (ts_bi (F_X4_tell [.inr (.inr (.inl (0, 0))), .inl (nI 3)] σ) fun x2 σ1 => some (some (.inl x2), σ1)) else ts_bv (F_X1_become [.inr (.inr (.inl (1, 0))), .inr (.inr (.inl (3, 0)))] σ) fun σ3 => some (some (.inl (σ3 1 0 2)), σ3)) := by
  exact (ts_unf E_X4_undo tb_X4_undo [] 19 _).trans rfl
set_option maxRecDepth 100000 in
set_option maxHeartbeats 2000000 in
theorem e_X4_tear (σ : ts_S) : F_X4_tear [.inr (.inr (.inl (0, 0)))] σ = (if (σ 0 0 3) = nI 0 then (ts_nw (ts_up σ 0 0 3 (nI 0)) fun σ1 => some (some (.inl (nI 0)), σ1)) else ts_nw (ts_up σ 0 0 3 (nI 0)) fun σ2 => some (some (.inl (nI 1)), σ2)) := by
  exact (ts_unf E_X4_tear tb_X4_tear [] 15 _).trans rfl
end
section
/-! the methods' equations, part 3 -/
set_option maxRecDepth 100000 in
set_option maxHeartbeats 2000000 in
theorem e_X4_count (a1 : Int32) (σ : ts_S) : F_X4_count [.inr (.inr (.inl (0, 0))), .inl a1] σ = (if a1 = nI 0 then (some (some (.inl (σ 1 0 2)), σ)) else if a1 = nI 1 then (some (some (.inl (σ 1 0 4)), σ)) else if a1 = nI 2 then (some (some (.inl (σ 1 0 10)), σ)) else if a1 = nI 3 then (some (some (.inl (σ 1 0 1)), σ)) else if a1 = nI 4 then (ts_bi (F_X1_keptInAll [.inr (.inr (.inl (1, 0)))] σ) fun x2 σ1 => some (some (.inl x2), σ1)) else if a1 = nI 5 then (some (some (.inl (σ 4 0 1)), σ)) else if a1 = nI 6 then (some (some (.inl (σ 1 0 3)), σ)) else if a1 = nI 7 then (ts_bi (F_X1_spotsInUse [.inr (.inr (.inl (1, 0)))] σ) fun x4 σ3 => some (some (.inl x4), σ3)) else ts_bi (F_X4_tell [.inr (.inr (.inl (0, 0))), .inl (nI 0)] σ) fun x6 σ5 => some (some (.inl x6), σ5)) := by
  exact (ts_unf E_X4_count tb_X4_count [] 41 _).trans rfl
noncomputable def H_X4_status_9 (v1 : Int32) (v2 : Int32) (v3 : Int32) (σ : ts_S) : Option ts_A := ts_R E_X4_status tb_X4_status (9, [some (.inr (.inr (.inl (0, 0)))), some (.inl v1), some (.inl v2), some (.inl v3)], [], σ)
set_option maxRecDepth 100000 in
set_option maxHeartbeats 2000000 in
theorem e_X4_status (a1 : Int32) (σ : ts_S) : F_X4_status [.inr (.inr (.inl (0, 0))), .inl a1] σ = (if a1 = (-1) then (H_X4_status_9 a1 (nI 0) (nI 0) σ) else ts_bi (F_X4_isBelow [.inl a1, .inl (nI 7)] σ) fun x2 σ1 => if x2 = nI 0 then (ts_bi (F_X4_tell [.inr (.inr (.inl (0, 0))), .inl (nI 0)] σ1) fun x4 σ3 => some (some (.inl x4), σ3)) else ts_ck a1 7 <| some (some (.inl (σ1 0 1 (a1.toNatClampNeg))), σ1)) := by
  exact (ts_unf E_X4_status tb_X4_status [9] 37 _).trans rfl
set_option maxRecDepth 100000 in
set_option maxHeartbeats 2000000 in
theorem h_X4_status_9 (v1 : Int32) (v2 : Int32) (v3 : Int32) (σ : ts_S) : H_X4_status_9 v1 v2 v3 σ = (if (nI 7) ≤ v3 then (some (some (.inl v2), σ)) else ts_ck v3 7 <| ts_ni (v2 + (σ 0 1 (v3.toNatClampNeg))) fun y1 => H_X4_status_9 v1 y1 (v3 + (nI 1)) σ) := by
  exact (ts_unf E_X4_status tb_X4_status [9] 37 _).trans rfl
set_option maxRecDepth 100000 in
theorem e_X5_finding_6 (b : Int32) (a1 : Int32) (σ : ts_S) : ts_R E_X5_finding tb_X5_finding (6, [some (.inr (.inr (.inl (6, 0)))), some (.inl a1)], [.inl b, .inr (.inr (.inl (6, 4)))], σ) = (ts_ck ((b - a1) + (nI 1)) 8 <| ts_ck ((b - a1) + (nI 1)) 8 <| ts_nw (ts_up σ 6 4 (((b - a1) + (nI 1)).toNatClampNeg) ((σ 6 4 (((b - a1) + (nI 1)).toNatClampNeg)) + (nI 1))) fun σ1 => ts_ck (nI 0) 8 <| ts_ck (nI 0) 8 <| ts_nw (ts_up σ1 6 4 0 ((σ1 6 4 0) + (nI 1))) fun σ2 => some (some (.inl a1), σ2)) := by
  exact (ts_unf E_X5_finding tb_X5_finding [] 25 _).trans rfl
theorem e_X5_finding (a1 : Int32) (σ : ts_S) : F_X5_finding [.inr (.inr (.inl (6, 0))), .inl a1] σ = (ts_ck (((Int32.ofNat 4293967295) - a1) + (nI 1)) 8 <| ts_ck (((Int32.ofNat 4293967295) - a1) + (nI 1)) 8 <| ts_nw (ts_up σ 6 4 ((((Int32.ofNat 4293967295) - a1) + (nI 1)).toNatClampNeg) ((σ 6 4 ((((Int32.ofNat 4293967295) - a1) + (nI 1)).toNatClampNeg)) + (nI 1))) fun σ1 => ts_ck (nI 0) 8 <| ts_ck (nI 0) 8 <| ts_nw (ts_up σ1 6 4 0 ((σ1 6 4 0) + (nI 1))) fun σ2 => some (some (.inl a1), σ2)) := by
  refine Eq.trans ?_ (e_X5_finding_6 (Int32.ofNat 4293967295) a1 σ)
  exact (ts_unf E_X5_finding tb_X5_finding [6] 25 _).trans rfl
set_option maxRecDepth 100000 in
set_option maxHeartbeats 2000000 in
theorem e_X5_within (a1 : Int32) (a2 : Int32) (a3 : Int32) (σ : ts_S) : F_X5_within [.inl a1, .inl a2, .inl a3] σ = (if a1 < a2 then (some (some (.inl (nI 0)), σ)) else if a3 < a1 then (some (some (.inl (nI 0)), σ)) else some (some (.inl (nI 1)), σ)) := by
  exact (ts_unf E_X5_within tb_X5_within [] 13 _).trans rfl
set_option maxRecDepth 100000 in
set_option maxHeartbeats 2000000 in
theorem e_X5_become (a1 : Int32) (a2 : Int32) (σ : ts_S) : F_X5_become [.inr (.inr (.inl (6, 0))), .inl a1, .inl a2] σ = (ts_ck a1 111 <| ts_ni (σ 6 1 (a1.toNatClampNeg)) fun y1 => ts_ck a1 111 <| ts_nw (ts_up σ 6 1 (a1.toNatClampNeg) a2) fun σ2 => some (some (.inl y1), σ2)) := by
  exact (ts_unf E_X5_become tb_X5_become [] 15 _).trans rfl
noncomputable def H_X5_copyRow_2 (c1 : Nat) (c2 : Nat) (v2 : Int32) (σ : ts_S) : Option ts_A := ts_R E_X5_copyRow tb_X5_copyRow (2, [some (.inr (.inr (.inl (6, c1)))), some (.inr (.inr (.inl (6, c2)))), some (.inl v2)], [], σ)
set_option maxRecDepth 100000 in
set_option maxHeartbeats 2000000 in
theorem e_X5_copyRow {c1 : Nat} {c2 : Nat} (hc : ts_mq c1 c2) (σ : ts_S) : F_X5_copyRow [.inr (.inr (.inl (6, c1))), .inr (.inr (.inl (6, c2)))] σ = (H_X5_copyRow_2 c1 c2 (nI 0) σ) := by
  rcases hc with ⟨rfl, rfl⟩ | ⟨rfl, rfl⟩ | ⟨rfl, rfl⟩ | ⟨rfl, rfl⟩ <;> exact (ts_unf E_X5_copyRow tb_X5_copyRow [2] 17 _).trans rfl
set_option maxRecDepth 100000 in
set_option maxHeartbeats 2000000 in
theorem h_X5_copyRow_2 {c1 : Nat} {c2 : Nat} (hc : ts_mq c1 c2) (v2 : Int32) (σ : ts_S) : H_X5_copyRow_2 c1 c2 v2 σ = (if (nI 111) ≤ v2 then (some (none, σ)) else ts_ck v2 111 <| ts_ck v2 111 <| ts_nw (ts_up σ 6 c2 (v2.toNatClampNeg) (σ 6 c1 (v2.toNatClampNeg))) fun σ1 => H_X5_copyRow_2 c1 c2 (v2 + (nI 1)) σ1) := by
  rcases hc with ⟨rfl, rfl⟩ | ⟨rfl, rfl⟩ | ⟨rfl, rfl⟩ | ⟨rfl, rfl⟩ <;> exact (ts_unf E_X5_copyRow tb_X5_copyRow [2] 17 _).trans rfl
set_option maxRecDepth 100000 in
set_option maxHeartbeats 2000000 in
theorem e_X5_putBack (a1 : Int32) (σ : ts_S) : F_X5_putBack [.inr (.inr (.inl (6, 0))), .inl a1] σ = (ts_bv (F_X5_copyRow [.inr (.inr (.inl (6, 3))), .inr (.inr (.inl (6, 1)))] σ) fun σ1 => some (some (.inl a1), σ1)) := by
  exact (ts_unf E_X5_putBack tb_X5_putBack [] 10 _).trans rfl
set_option maxRecDepth 100000 in
set_option maxHeartbeats 2000000 in
theorem e_X5_orNone (a1 : Int32) (σ : ts_S) : F_X5_orNone [.inr (.inr (.inl (6, 0))), .inl a1] σ = (if nI 0 ≤ a1 then (some (some (.inl a1), σ)) else ts_bi (F_X5_finding [.inr (.inr (.inl (6, 0))), .inl (Int32.ofNat 4293967292)] σ) fun x2 σ1 => some (some (.inl x2), σ1)) := by
  exact (ts_unf E_X5_orNone tb_X5_orNone [] 11 _).trans rfl
noncomputable def H_X5_bits_4 (v0 : Int32) (v1 : Int32) (v2 : Int32) (σ : ts_S) : Option ts_A := ts_R E_X5_bits tb_X5_bits (4, [some (.inl v0), some (.inl v1), some (.inl v2)], [], σ)
set_option maxRecDepth 100000 in
set_option maxHeartbeats 2000000 in
theorem e_X5_bits (a1 : Int32) (σ : ts_S) : F_X5_bits [.inl a1] σ = (H_X5_bits_4 a1 (nI 0) a1 σ) := by
  exact (ts_unf E_X5_bits tb_X5_bits [4] 19 _).trans rfl
set_option maxRecDepth 100000 in
set_option maxHeartbeats 2000000 in
theorem h_X5_bits_4 (v0 : Int32) (v1 : Int32) (v2 : Int32) (σ : ts_S) : H_X5_bits_4 v0 v1 v2 σ = (if v2 = nI 0 then (some (some (.inl v1), σ)) else ts_ni (v2 &&& (v2 - (nI 1))) fun y1 => H_X5_bits_4 v0 (v1 + (nI 1)) y1 σ) := by
  exact (ts_unf E_X5_bits tb_X5_bits [4] 19 _).trans rfl
set_option maxRecDepth 100000 in
set_option maxHeartbeats 2000000 in
theorem e_X5_isSet (a1 : Int32) (σ : ts_S) : F_X5_isSet [.inl a1] σ = (ts_bi (F_X5_within [.inl a1, .inl (nI 0), .inl (nI 4095)] σ) fun x2 σ1 => if x2 = nI 0 ∨ x2 = nI 1 then some (some (.inl x2), σ1) else none) := by
  exact (ts_unf E_X5_isSet tb_X5_isSet [] 8 _).trans rfl
set_option maxRecDepth 100000 in
set_option maxHeartbeats 2000000 in
theorem e_X5_isWordNumber (a1 : Int32) (σ : ts_S) : F_X5_isWordNumber [.inl a1] σ = (ts_bi (F_X5_within [.inl a1, .inl (nI 0), .inl (nI 11)] σ) fun x2 σ1 => if x2 = nI 0 ∨ x2 = nI 1 then some (some (.inl x2), σ1) else none) := by
  exact (ts_unf E_X5_isWordNumber tb_X5_isWordNumber [] 8 _).trans rfl
set_option maxRecDepth 100000 in
set_option maxHeartbeats 2000000 in
theorem e_X5_isPlace (a1 : Int32) (σ : ts_S) : F_X5_isPlace [.inl a1] σ = (ts_bi (F_X5_within [.inl a1, .inl (nI 0), .inl (nI 5)] σ) fun x2 σ1 => if x2 = nI 0 ∨ x2 = nI 1 then some (some (.inl x2), σ1) else none) := by
  exact (ts_unf E_X5_isPlace tb_X5_isPlace [] 8 _).trans rfl
set_option maxRecDepth 100000 in
set_option maxHeartbeats 2000000 in
theorem e_X5_list (a1 : Int32) (a2 : Int32) (a3 : Int32) (σ : ts_S) : F_X5_list [.inr (.inr (.inl (6, 0))), .inl a1, .inl a2, .inl a3] σ = (ts_bi (F_X5_isPlace [.inl a1] σ) fun x2 σ1 => if x2 = nI 0 then (ts_bi (F_X5_finding [.inr (.inr (.inl (6, 0))), .inl (Int32.ofNat 4293967295)] σ1) fun x4 σ3 => some (some (.inl x4), σ3)) else ts_bi (F_X5_within [.inl a2, .inl (nI 0), .inl (nI 5)] σ1) fun x6 σ5 => if x6 = nI 0 then (ts_bi (F_X5_finding [.inr (.inr (.inl (6, 0))), .inl (Int32.ofNat 4293967295)] σ5) fun x8 σ7 => some (some (.inl x8), σ7)) else ts_bi (F_X5_within [.inl a3, .inl (nI 0), .inl (nI 7)] σ5) fun x10 σ9 => if x10 = nI 0 then (ts_bi (F_X5_finding [.inr (.inr (.inl (6, 0))), .inl (Int32.ofNat 4293967295)] σ9) fun x12 σ11 => some (some (.inl x12), σ11)) else ts_bi (F_X5_become [.inr (.inr (.inl (6, 0))), .inl ((nI 5) + a1), .inl (((nI 10) * a2) + a3)] σ9) fun x14 σ13 => some (some (.inl x14), σ13)) := by
  exact (ts_unf E_X5_list tb_X5_list [] 31 _).trans rfl
set_option maxRecDepth 100000 in
set_option maxHeartbeats 2000000 in
theorem e_X5_listed (a1 : Int32) (σ : ts_S) : F_X5_listed [.inr (.inr (.inl (6, 0))), .inl a1] σ = (ts_bi (F_X5_isPlace [.inl a1] σ) fun x2 σ1 => if x2 = nI 0 then (ts_bi (F_X5_finding [.inr (.inr (.inl (6, 0))), .inl (Int32.ofNat 4293967295)] σ1) fun x4 σ3 => some (some (.inl x4), σ3)) else ts_ck ((nI 5) + a1) 111 <| some (some (.inl (σ1 6 1 (((nI 5) + a1).toNatClampNeg))), σ1)) := by
  exact (ts_unf E_X5_listed tb_X5_listed [] 17 _).trans rfl
set_option maxRecDepth 100000 in
set_option maxHeartbeats 2000000 in
theorem e_X5_placeNow (σ : ts_S) : F_X5_placeNow [.inr (.inr (.inl (6, 0)))] σ = (ts_ck (nI 0) 111 <| some (some (.inl ((nI 5) + ((σ 6 1 0) - (σ 6 1 0) / (nI 6) * (nI 6)))), σ)) := by
  exact (ts_unf E_X5_placeNow tb_X5_placeNow [] 12 _).trans rfl
set_option maxRecDepth 100000 in
set_option maxHeartbeats 2000000 in
theorem e_X5_sillAt (a1 : Int32) (a2 : Int32) (σ : ts_S) : F_X5_sillAt [.inl a1, .inl a2] σ = (some (some (.inl (((nI 21) + ((nI 9) * a1)) + a2)), σ)) := by
  exact (ts_unf E_X5_sillAt tb_X5_sillAt [] 11 _).trans rfl
set_option maxRecDepth 100000 in
set_option maxHeartbeats 2000000 in
theorem e_X5_sillIs (a1 : Int32) (a2 : Int32) (σ : ts_S) : F_X5_sillIs [.inr (.inr (.inl (6, 0))), .inl a1, .inl a2] σ = (ts_bi (F_X5_sillAt [.inl a1, .inl a2] σ) fun x2 σ1 => ts_ck x2 111 <| some (some (.inl (σ1 6 1 (x2.toNatClampNeg))), σ1)) := by
  exact (ts_unf E_X5_sillIs tb_X5_sillIs [] 10 _).trans rfl
set_option maxRecDepth 100000 in
set_option maxHeartbeats 2000000 in
theorem e_X5_isSill (a1 : Int32) (σ : ts_S) : F_X5_isSill [.inr (.inr (.inl (6, 0))), .inl a1] σ = (ts_ck (nI 1) 111 <| ts_bi (F_X5_within [.inl a1, .inl (nI 0), .inl ((σ 6 1 1) - (nI 1))] σ) fun x2 σ1 => if x2 = nI 0 ∨ x2 = nI 1 then some (some (.inl x2), σ1) else none) := by
  exact (ts_unf E_X5_isSill tb_X5_isSill [] 13 _).trans rfl
set_option maxRecDepth 100000 in
set_option maxHeartbeats 2000000 in
theorem e_X5_personAt (a1 : Int32) (a2 : Int32) (σ : ts_S) : F_X5_personAt [.inl a1, .inl a2] σ = (some (some (.inl (((nI 93) + ((nI 3) * a1)) + a2)), σ)) := by
  exact (ts_unf E_X5_personAt tb_X5_personAt [] 11 _).trans rfl
set_option maxRecDepth 100000 in
set_option maxHeartbeats 2000000 in
theorem e_X5_personIs (a1 : Int32) (a2 : Int32) (σ : ts_S) : F_X5_personIs [.inr (.inr (.inl (6, 0))), .inl a1, .inl a2] σ = (ts_bi (F_X5_personAt [.inl a1, .inl a2] σ) fun x2 σ1 => ts_ck x2 111 <| some (some (.inl (σ1 6 1 (x2.toNatClampNeg))), σ1)) := by
  exact (ts_unf E_X5_personIs tb_X5_personIs [] 10 _).trans rfl
set_option maxRecDepth 100000 in
set_option maxHeartbeats 2000000 in
theorem e_X5_isPerson (a1 : Int32) (σ : ts_S) : F_X5_isPerson [.inr (.inr (.inl (6, 0))), .inl a1] σ = (ts_ck (nI 3) 111 <| ts_bi (F_X5_within [.inl a1, .inl (nI 0), .inl ((σ 6 1 3) - (nI 1))] σ) fun x2 σ1 => if x2 = nI 0 ∨ x2 = nI 1 then some (some (.inl x2), σ1) else none) := by
  exact (ts_unf E_X5_isPerson tb_X5_isPerson [] 13 _).trans rfl
set_option maxRecDepth 100000 in
set_option maxHeartbeats 2000000 in
theorem e_X5_isKind (a1 : Int32) (σ : ts_S) : F_X5_isKind [.inl a1] σ = (ts_bi (F_X5_within [.inl a1, .inl (nI 0), .inl (nI 6)] σ) fun x2 σ1 => if x2 = nI 0 ∨ x2 = nI 1 then some (some (.inl x2), σ1) else none) := by
  exact (ts_unf E_X5_isKind tb_X5_isKind [] 8 _).trans rfl
noncomputable def H_X5_comes_9 (v1 : Int32) (v2 : Int32) (v3 : Int32) (σ : ts_S) : Option ts_A := ts_R E_X5_comes tb_X5_comes (9, [some (.inr (.inr (.inl (6, 0)))), some (.inl v1), some (.inl v2), some (.inl v3)], [], σ)
set_option maxRecDepth 100000 in
set_option maxHeartbeats 2000000 in
theorem e_X5_comes (a1 : Int32) (σ : ts_S) : F_X5_comes [.inr (.inr (.inl (6, 0))), .inl a1] σ = (ts_ck (nI 1) 111 <| ts_ni (σ 6 1 1) fun y1 => H_X5_comes_9 a1 y1 (nI 0) σ) := by
  exact (ts_unf E_X5_comes tb_X5_comes [9] 39 _).trans rfl
set_option maxRecDepth 100000 in
set_option maxHeartbeats 2000000 in
theorem h_X5_comes_9 (v1 : Int32) (v2 : Int32) (v3 : Int32) (σ : ts_S) : H_X5_comes_9 v1 v2 v3 σ = (if (nI 9) ≤ v3 then (ts_bi (F_X5_sillAt [.inl v2, .inl (nI 0)] σ) fun x2 σ1 => ts_ck x2 111 <| ts_nw (ts_up σ1 6 1 (x2.toNatClampNeg) v1) fun σ3 => ts_ck (nI 1) 111 <| ts_ck (nI 1) 111 <| ts_nw (ts_up σ3 6 1 1 ((σ3 6 1 1) + (nI 1))) fun σ4 => some (some (.inl v2), σ4)) else ts_bi (F_X5_sillAt [.inl v2, .inl v3] σ) fun x6 σ5 => ts_ck x6 111 <| ts_nw (ts_up σ5 6 1 (x6.toNatClampNeg) (nI 0)) fun σ7 => H_X5_comes_9 v1 v2 (v3 + (nI 1)) σ7) := by
  exact (ts_unf E_X5_comes tb_X5_comes [9] 39 _).trans rfl
set_option maxRecDepth 100000 in
set_option maxHeartbeats 2000000 in
theorem e_X5_sill (a1 : Int32) (σ : ts_S) : F_X5_sill [.inr (.inr (.inl (6, 0))), .inl a1] σ = (ts_bi (F_X5_isKind [.inl a1] σ) fun x2 σ1 => if x2 = nI 0 then (ts_bi (F_X5_finding [.inr (.inr (.inl (6, 0))), .inl (Int32.ofNat 4293967295)] σ1) fun x4 σ3 => some (some (.inl x4), σ3)) else ts_ck (nI 1) 111 <| if (σ1 6 1 1) = (nI 8) then (ts_bi (F_X5_finding [.inr (.inr (.inl (6, 0))), .inl (Int32.ofNat 4293967294)] σ1) fun x6 σ5 => some (some (.inl x6), σ5)) else ts_bi (F_X5_comes [.inr (.inr (.inl (6, 0))), .inl a1] σ1) fun x8 σ7 => some (some (.inl x8), σ7)) := by
  exact (ts_unf E_X5_sill tb_X5_sill [] 24 _).trans rfl
set_option maxRecDepth 100000 in
set_option maxHeartbeats 2000000 in
theorem e_X5_onePersonMore (a1 : Int32) (σ : ts_S) : F_X5_onePersonMore [.inr (.inr (.inl (6, 0))), .inl a1] σ = (ts_ck (nI 3) 111 <| ts_ni (σ 6 1 3) fun y1 => ts_bi (F_X5_personAt [.inl y1, .inl (nI 0)] σ) fun x3 σ2 => ts_ck x3 111 <| ts_nw (ts_up σ2 6 1 (x3.toNatClampNeg) a1) fun σ4 => ts_bi (F_X5_personAt [.inl y1, .inl (nI 1)] σ4) fun x6 σ5 => ts_ck x6 111 <| ts_nw (ts_up σ5 6 1 (x6.toNatClampNeg) (-1)) fun σ7 => ts_bi (F_X5_personAt [.inl y1, .inl (nI 2)] σ7) fun x9 σ8 => ts_ck x9 111 <| ts_nw (ts_up σ8 6 1 (x9.toNatClampNeg) (nI 0)) fun σ10 => ts_ck (nI 3) 111 <| ts_ck (nI 3) 111 <| ts_nw (ts_up σ10 6 1 3 ((σ10 6 1 3) + (nI 1))) fun σ11 => some (some (.inl y1), σ11)) := by
  exact (ts_unf E_X5_onePersonMore tb_X5_onePersonMore [] 39 _).trans rfl
set_option maxRecDepth 100000 in
set_option maxHeartbeats 2000000 in
theorem e_X5_person (a1 : Int32) (σ : ts_S) : F_X5_person [.inr (.inr (.inl (6, 0))), .inl a1] σ = (ts_bi (F_X5_isSet [.inl a1] σ) fun x2 σ1 => if x2 = nI 0 then (ts_bi (F_X5_finding [.inr (.inr (.inl (6, 0))), .inl (Int32.ofNat 4293967295)] σ1) fun x4 σ3 => some (some (.inl x4), σ3)) else ts_ck (nI 3) 111 <| if (σ1 6 1 3) = (nI 6) then (ts_bi (F_X5_finding [.inr (.inr (.inl (6, 0))), .inl (Int32.ofNat 4293967294)] σ1) fun x6 σ5 => some (some (.inl x6), σ5)) else ts_bi (F_X5_onePersonMore [.inr (.inr (.inl (6, 0))), .inl a1] σ1) fun x8 σ7 => some (some (.inl x8), σ7)) := by
  exact (ts_unf E_X5_person tb_X5_person [] 24 _).trans rfl
set_option maxRecDepth 100000 in
set_option maxHeartbeats 2000000 in
theorem e_X5_holds (a1 : Int32) (σ : ts_S) : F_X5_holds [.inr (.inr (.inl (6, 0))), .inl a1] σ = (ts_bi (F_X5_sillIs [.inr (.inr (.inl (6, 0))), .inl a1, .inl (nI 0)] σ) fun x2 σ1 => if x2 = nI 1 then (some (some (.inl (nI 4)), σ1)) else if x2 = nI 2 then (some (some (.inl (nI 5)), σ1)) else if x2 = nI 3 then (some (some (.inl (nI 4)), σ1)) else if x2 = nI 4 then (some (some (.inl (nI 2)), σ1)) else if x2 = nI 5 then (some (some (.inl (nI 3)), σ1)) else if x2 = nI 6 then (some (some (.inl (nI 0)), σ1)) else some (some (.inl (nI 3)), σ1)) := by
  exact (ts_unf E_X5_holds tb_X5_holds [] 18 _).trans rfl
noncomputable def H_X5_keptSet_4 (v1 : Int32) (v2 : Int32) (v3 : Int32) (σ : ts_S) : Option ts_A := ts_R E_X5_keptSet tb_X5_keptSet (4, [some (.inr (.inr (.inl (6, 0)))), some (.inl v1), some (.inl v2), some (.inl v3)], [], σ)
set_option maxRecDepth 100000 in
set_option maxHeartbeats 2000000 in
theorem e_X5_keptSet (a1 : Int32) (σ : ts_S) : F_X5_keptSet [.inr (.inr (.inl (6, 0))), .inl a1] σ = (H_X5_keptSet_4 a1 (nI 0) (nI 0) σ) := by
  exact (ts_unf E_X5_keptSet tb_X5_keptSet [4] 28 _).trans rfl
set_option maxRecDepth 100000 in
set_option maxHeartbeats 2000000 in
theorem h_X5_keptSet_4 (v1 : Int32) (v2 : Int32) (v3 : Int32) (σ : ts_S) : H_X5_keptSet_4 v1 v2 v3 σ = (ts_bi (F_X5_sillIs [.inr (.inr (.inl (6, 0))), .inl v1, .inl (nI 3)] σ) fun x2 σ1 => if x2 ≤ v3 then (some (some (.inl v2), σ1)) else ts_bi (F_X5_sillIs [.inr (.inr (.inl (6, 0))), .inl v1, .inl ((nI 4) + v3)] σ1) fun x4 σ3 => ts_ni (v2 ||| ((nI 1) <<< (x4 &&& nI 31))) fun y5 => H_X5_keptSet_4 v1 y5 (v3 + (nI 1)) σ3) := by
  exact (ts_unf E_X5_keptSet tb_X5_keptSet [4] 28 _).trans rfl
set_option maxRecDepth 100000 in
set_option maxHeartbeats 2000000 in
theorem e_X5_givesFrom (a1 : Int32) (σ : ts_S) : F_X5_givesFrom [.inr (.inr (.inl (6, 0))), .inl a1] σ = (ts_bi (F_X5_sillIs [.inr (.inr (.inl (6, 0))), .inl a1, .inl (nI 3)] σ) fun x2 σ1 => ts_ni (x2 - (nI 1)) fun y3 => if nI 0 ≤ y3 then (ts_bi (F_X5_sillIs [.inr (.inr (.inl (6, 0))), .inl a1, .inl (nI 0)] σ1) fun x5 σ4 => if x5 = nI 2 then (some (some (.inl y3), σ4)) else if x5 = nI 3 then (ts_bi (F_X5_sillIs [.inr (.inr (.inl (6, 0))), .inl a1, .inl (nI 1)] σ4) fun x7 σ6 => if (x7 - x7 / (nI 3) * (nI 3)) = nI 0 then (some (some (.inl (nI 0)), σ6)) else some (some (.inl y3), σ6)) else if x5 = nI 4 then (ts_bi (F_X5_sillIs [.inr (.inr (.inl (6, 0))), .inl a1, .inl (nI 1)] σ4) fun x9 σ8 => if (x9 - x9 / (nI 3) * (nI 3)) = nI 0 then (some (some (.inl (nI 0)), σ8)) else some (some (.inl y3), σ8)) else if x5 = nI 5 then (some (some (.inl (-1)), σ4)) else some (some (.inl (nI 0)), σ4)) else ts_bi (F_X5_sillIs [.inr (.inr (.inl (6, 0))), .inl a1, .inl (nI 0)] σ1) fun x11 σ10 => if x11 = nI 2 then (some (some (.inl y3), σ10)) else if x11 = nI 3 then (ts_bi (F_X5_sillIs [.inr (.inr (.inl (6, 0))), .inl a1, .inl (nI 1)] σ10) fun x13 σ12 => if (x13 - x13 / (nI 3) * (nI 3)) = nI 0 then (some (some (.inl (-1)), σ12)) else some (some (.inl y3), σ12)) else if x11 = nI 4 then (ts_bi (F_X5_sillIs [.inr (.inr (.inl (6, 0))), .inl a1, .inl (nI 1)] σ10) fun x15 σ14 => if (x15 - x15 / (nI 3) * (nI 3)) = nI 0 then (some (some (.inl (-1)), σ14)) else some (some (.inl y3), σ14)) else if x11 = nI 5 then (some (some (.inl (-1)), σ10)) else some (some (.inl (-1)), σ10)) := by
  exact (ts_unf E_X5_givesFrom tb_X5_givesFrom [] 38 _).trans rfl
set_option maxRecDepth 100000 in
set_option maxHeartbeats 2000000 in
theorem e_X5_gives (a1 : Int32) (σ : ts_S) : F_X5_gives [.inr (.inr (.inl (6, 0))), .inl a1] σ = (ts_bi (F_X5_givesFrom [.inr (.inr (.inl (6, 0))), .inl a1] σ) fun x2 σ1 => if nI 0 ≤ x2 then (ts_bi (F_X5_sillIs [.inr (.inr (.inl (6, 0))), .inl a1, .inl ((nI 4) + x2)] σ1) fun x4 σ3 => some (some (.inl x4), σ3)) else some (some (.inl (-1)), σ1)) := by
  exact (ts_unf E_X5_gives tb_X5_gives [] 18 _).trans rfl
noncomputable def H_X5_greatest_3 (v0 : Int32) (v1 : Int32) (σ : ts_S) : Option ts_A := ts_R E_X5_greatest tb_X5_greatest (3, [some (.inl v0), some (.inl v1)], [], σ)
set_option maxRecDepth 100000 in
set_option maxHeartbeats 2000000 in
theorem e_X5_greatest (a1 : Int32) (σ : ts_S) : F_X5_greatest [.inl a1] σ = (H_X5_greatest_3 a1 (nI 11) σ) := by
  exact (ts_unf E_X5_greatest tb_X5_greatest [3] 17 _).trans rfl
set_option maxRecDepth 100000 in
set_option maxHeartbeats 2000000 in
theorem h_X5_greatest_3 (v0 : Int32) (v1 : Int32) (σ : ts_S) : H_X5_greatest_3 v0 v1 σ = (if v1 < nI 0 then (some (some (.inl v1), σ)) else if ((v0 >>> (v1 &&& nI 31)) &&& (nI 1)) = nI 0 then (H_X5_greatest_3 v0 (v1 + (-1)) σ) else some (some (.inl v1), σ)) := by
  exact (ts_unf E_X5_greatest tb_X5_greatest [3] 17 _).trans rfl
noncomputable def H_X5_least_2 (v0 : Int32) (v1 : Int32) (σ : ts_S) : Option ts_A := ts_R E_X5_least tb_X5_least (2, [some (.inl v0), some (.inl v1)], [], σ)
set_option maxRecDepth 100000 in
set_option maxHeartbeats 2000000 in
theorem e_X5_least (a1 : Int32) (σ : ts_S) : F_X5_least [.inl a1] σ = (H_X5_least_2 a1 (nI 0) σ) := by
  exact (ts_unf E_X5_least tb_X5_least [2] 23 _).trans rfl
set_option maxRecDepth 100000 in
set_option maxHeartbeats 2000000 in
theorem h_X5_least_2 (v0 : Int32) (v1 : Int32) (σ : ts_S) : H_X5_least_2 v0 v1 σ = (if (nI 12) ≤ v1 then (if v1 = (nI 12) then (some (some (.inl (-1)), σ)) else some (some (.inl v1), σ)) else if ((v0 >>> (v1 &&& nI 31)) &&& (nI 1)) = nI 0 then (H_X5_least_2 v0 (v1 + (nI 1)) σ) else if v1 = (nI 12) then (some (some (.inl (-1)), σ)) else some (some (.inl v1), σ)) := by
  exact (ts_unf E_X5_least tb_X5_least [2] 23 _).trans rfl
set_option maxRecDepth 100000 in
set_option maxHeartbeats 2000000 in
theorem e_X5_takesOf (a1 : Int32) (a2 : Int32) (σ : ts_S) : F_X5_takesOf [.inr (.inr (.inl (6, 0))), .inl a1, .inl a2] σ = (ts_bi (F_X5_greatest [.inl (a2 &&& (nI 1365))] σ) fun x2 σ1 => if nI 0 ≤ x2 then (ts_bi (F_X5_sillIs [.inr (.inr (.inl (6, 0))), .inl a1, .inl (nI 0)] σ1) fun x4 σ3 => if x4 = nI 1 then (ts_bi (F_X5_least [.inl a2] σ3) fun x6 σ5 => some (some (.inl x6), σ5)) else if x4 = nI 2 then (some (some (.inl x2), σ3)) else if x4 = nI 3 then (some (some (.inl x2), σ3)) else if x4 = nI 4 then (if x2 < nI 0 then (some (some (.inl x2), σ3)) else ts_bi (F_X5_keptSet [.inr (.inr (.inl (6, 0))), .inl a1] σ3) fun x8 σ7 => if ((x8 >>> (x2 &&& nI 31)) &&& (nI 1)) = (nI 1) then (some (some (.inl (-1)), σ7)) else some (some (.inl x2), σ7)) else if x4 = nI 5 then (ts_bi (F_X5_greatest [.inl a2] σ3) fun x10 σ9 => some (some (.inl x10), σ9)) else if x4 = nI 6 then (ts_bi (F_X5_least [.inl a2] σ3) fun x12 σ11 => some (some (.inl x12), σ11)) else ts_bi (F_X5_greatest [.inl a2] σ3) fun x14 σ13 => some (some (.inl x14), σ13)) else ts_bi (F_X5_greatest [.inl a2] σ1) fun x16 σ15 => ts_bi (F_X5_sillIs [.inr (.inr (.inl (6, 0))), .inl a1, .inl (nI 0)] σ15) fun x18 σ17 => if x18 = nI 1 then (ts_bi (F_X5_least [.inl a2] σ17) fun x20 σ19 => some (some (.inl x20), σ19)) else if x18 = nI 2 then (some (some (.inl x2), σ17)) else if x18 = nI 3 then (some (some (.inl x16), σ17)) else if x18 = nI 4 then (if x16 < nI 0 then (some (some (.inl x16), σ17)) else ts_bi (F_X5_keptSet [.inr (.inr (.inl (6, 0))), .inl a1] σ17) fun x22 σ21 => if ((x22 >>> (x16 &&& nI 31)) &&& (nI 1)) = (nI 1) then (some (some (.inl (-1)), σ21)) else some (some (.inl x16), σ21)) else if x18 = nI 5 then (ts_bi (F_X5_greatest [.inl a2] σ17) fun x24 σ23 => some (some (.inl x24), σ23)) else if x18 = nI 6 then (ts_bi (F_X5_least [.inl a2] σ17) fun x26 σ25 => some (some (.inl x26), σ25)) else ts_bi (F_X5_greatest [.inl a2] σ17) fun x28 σ27 => some (some (.inl x28), σ27)) := by
  exact (ts_unf E_X5_takesOf tb_X5_takesOf [] 45 _).trans rfl
set_option maxRecDepth 100000 in
set_option maxHeartbeats 2000000 in
theorem e_X5_told (a1 : Int32) (a2 : Int32) (σ : ts_S) : F_X5_told [.inr (.inr (.inl (6, 0))), .inl a1, .inl a2] σ = (if a2 = nI 0 then (ts_bi (F_X5_sillIs [.inr (.inr (.inl (6, 0))), .inl a1, .inl (nI 0)] σ) fun x2 σ1 => some (some (.inl x2), σ1)) else if a2 = nI 1 then (ts_bi (F_X5_sillIs [.inr (.inr (.inl (6, 0))), .inl a1, .inl (nI 3)] σ) fun x4 σ3 => some (some (.inl x4), σ3)) else if a2 = nI 2 then (ts_bi (F_X5_sillIs [.inr (.inr (.inl (6, 0))), .inl a1, .inl (nI 1)] σ) fun x6 σ5 => some (some (.inl x6), σ5)) else if a2 = nI 3 then (ts_bi (F_X5_sillIs [.inr (.inr (.inl (6, 0))), .inl a1, .inl (nI 2)] σ) fun x8 σ7 => some (some (.inl x8), σ7)) else if a2 = nI 4 then (ts_bi (F_X5_holds [.inr (.inr (.inl (6, 0))), .inl a1] σ) fun x10 σ9 => some (some (.inl x10), σ9)) else if a2 = nI 5 then (ts_bi (F_X5_keptSet [.inr (.inr (.inl (6, 0))), .inl a1] σ) fun x12 σ11 => some (some (.inl x12), σ11)) else ts_bi (F_X5_gives [.inr (.inr (.inl (6, 0))), .inl a1] σ) fun x14 σ13 => some (some (.inl x14), σ13)) := by
  exact (ts_unf E_X5_told tb_X5_told [] 37 _).trans rfl
set_option maxRecDepth 100000 in
set_option maxHeartbeats 2000000 in
theorem e_X5_of (a1 : Int32) (a2 : Int32) (σ : ts_S) : F_X5_of [.inr (.inr (.inl (6, 0))), .inl a1, .inl a2] σ = (ts_bi (F_X5_isSill [.inr (.inr (.inl (6, 0))), .inl a1] σ) fun x2 σ1 => if x2 = nI 0 then (ts_bi (F_X5_finding [.inr (.inr (.inl (6, 0))), .inl (Int32.ofNat 4293967295)] σ1) fun x4 σ3 => some (some (.inl x4), σ3)) else ts_bi (F_X5_within [.inl a2, .inl (nI 0), .inl (nI 6)] σ1) fun x6 σ5 => if x6 = nI 0 then (ts_bi (F_X5_finding [.inr (.inr (.inl (6, 0))), .inl (Int32.ofNat 4293967295)] σ5) fun x8 σ7 => some (some (.inl x8), σ7)) else ts_bi (F_X5_told [.inr (.inr (.inl (6, 0))), .inl a1, .inl a2] σ5) fun x10 σ9 => some (some (.inl x10), σ9)) := by
  exact (ts_unf E_X5_of tb_X5_of [] 21 _).trans rfl
set_option maxRecDepth 100000 in
set_option maxHeartbeats 2000000 in
theorem e_X5_word (a1 : Int32) (a2 : Int32) (σ : ts_S) : F_X5_word [.inr (.inr (.inl (6, 0))), .inl a1, .inl a2] σ = (ts_bi (F_X5_isSill [.inr (.inr (.inl (6, 0))), .inl a1] σ) fun x2 σ1 => if x2 = nI 0 then (ts_bi (F_X5_finding [.inr (.inr (.inl (6, 0))), .inl (Int32.ofNat 4293967295)] σ1) fun x4 σ3 => some (some (.inl x4), σ3)) else if nI 0 ≤ a2 then (ts_bi (F_X5_sillIs [.inr (.inr (.inl (6, 0))), .inl a1, .inl (nI 3)] σ1) fun x6 σ5 => if x6 ≤ a2 then (ts_bi (F_X5_finding [.inr (.inr (.inl (6, 0))), .inl (Int32.ofNat 4293967292)] σ5) fun x8 σ7 => some (some (.inl x8), σ7)) else ts_bi (F_X5_sillIs [.inr (.inr (.inl (6, 0))), .inl a1, .inl ((nI 4) + a2)] σ5) fun x10 σ9 => some (some (.inl x10), σ9)) else ts_bi (F_X5_finding [.inr (.inr (.inl (6, 0))), .inl (Int32.ofNat 4293967295)] σ1) fun x12 σ11 => some (some (.inl x12), σ11)) := by
  exact (ts_unf E_X5_word tb_X5_word [] 30 _).trans rfl
set_option maxRecDepth 100000 in
set_option maxHeartbeats 2000000 in
theorem e_X5_change (a1 : Int32) (a2 : Int32) (a3 : Int32) (σ : ts_S) : F_X5_change [.inr (.inr (.inl (6, 0))), .inl a1, .inl a2, .inl a3] σ = (if a2 = nI 0 then (ts_bi (F_X5_isKind [.inl a3] σ) fun x2 σ1 => ts_bi (F_X5_isSill [.inr (.inr (.inl (6, 0))), .inl a1] σ1) fun x4 σ3 => if x4 = nI 0 then (ts_bi (F_X5_finding [.inr (.inr (.inl (6, 0))), .inl (Int32.ofNat 4293967295)] σ3) fun x6 σ5 => some (some (.inl x6), σ5)) else if x2 = nI 0 then (ts_bi (F_X5_finding [.inr (.inr (.inl (6, 0))), .inl (Int32.ofNat 4293967295)] σ3) fun x8 σ7 => some (some (.inl x8), σ7)) else if a2 = nI 0 then (ts_bi (F_X5_sillAt [.inl a1, .inl (nI 0)] σ3) fun x10 σ9 => ts_bi (F_X5_become [.inr (.inr (.inl (6, 0))), .inl x10, .inl a3] σ9) fun x12 σ11 => some (some (.inl x12), σ11)) else if a2 = (nI 2) then (ts_bi (F_X5_sillAt [.inl a1, .inl (nI 1)] σ3) fun x14 σ13 => ts_bi (F_X5_become [.inr (.inr (.inl (6, 0))), .inl x14, .inl a3] σ13) fun x16 σ15 => some (some (.inl x16), σ15)) else ts_bi (F_X5_sillAt [.inl a1, .inl (nI 2)] σ3) fun x18 σ17 => ts_bi (F_X5_become [.inr (.inr (.inl (6, 0))), .inl x18, .inl a3] σ17) fun x20 σ19 => some (some (.inl x20), σ19)) else if a2 = (nI 2) then (ts_bi (F_X5_within [.inl a3, .inl (nI 0), .inl (nI 9999)] σ) fun x22 σ21 => ts_bi (F_X5_isSill [.inr (.inr (.inl (6, 0))), .inl a1] σ21) fun x24 σ23 => if x24 = nI 0 then (ts_bi (F_X5_finding [.inr (.inr (.inl (6, 0))), .inl (Int32.ofNat 4293967295)] σ23) fun x26 σ25 => some (some (.inl x26), σ25)) else if x22 = nI 0 then (ts_bi (F_X5_finding [.inr (.inr (.inl (6, 0))), .inl (Int32.ofNat 4293967295)] σ23) fun x28 σ27 => some (some (.inl x28), σ27)) else if a2 = nI 0 then (ts_bi (F_X5_sillAt [.inl a1, .inl (nI 0)] σ23) fun x30 σ29 => ts_bi (F_X5_become [.inr (.inr (.inl (6, 0))), .inl x30, .inl a3] σ29) fun x32 σ31 => some (some (.inl x32), σ31)) else if a2 = (nI 2) then (ts_bi (F_X5_sillAt [.inl a1, .inl (nI 1)] σ23) fun x34 σ33 => ts_bi (F_X5_become [.inr (.inr (.inl (6, 0))), .inl x34, .inl a3] σ33) fun x36 σ35 => some (some (.inl x36), σ35)) else ts_bi (F_X5_sillAt [.inl a1, .inl (nI 2)] σ23) fun x38 σ37 => ts_bi (F_X5_become [.inr (.inr (.inl (6, 0))), .inl x38, .inl a3] σ37) fun x40 σ39 => some (some (.inl x40), σ39)) else if a2 = (nI 3) then (ts_bi (F_X5_within [.inl a3, .inl (nI 0), .inl (nI 1)] σ) fun x42 σ41 => if x42 = nI 0 then (ts_bi (F_X5_isSill [.inr (.inr (.inl (6, 0))), .inl a1] σ41) fun x44 σ43 => if x44 = nI 0 then (ts_bi (F_X5_finding [.inr (.inr (.inl (6, 0))), .inl (Int32.ofNat 4293967295)] σ43) fun x46 σ45 => some (some (.inl x46), σ45)) else if (nI 0) = nI 0 then (ts_bi (F_X5_finding [.inr (.inr (.inl (6, 0))), .inl (Int32.ofNat 4293967295)] σ43) fun x48 σ47 => some (some (.inl x48), σ47)) else if a2 = nI 0 then (ts_bi (F_X5_sillAt [.inl a1, .inl (nI 0)] σ43) fun x50 σ49 => ts_bi (F_X5_become [.inr (.inr (.inl (6, 0))), .inl x50, .inl a3] σ49) fun x52 σ51 => some (some (.inl x52), σ51)) else if a2 = (nI 2) then (ts_bi (F_X5_sillAt [.inl a1, .inl (nI 1)] σ43) fun x54 σ53 => ts_bi (F_X5_become [.inr (.inr (.inl (6, 0))), .inl x54, .inl a3] σ53) fun x56 σ55 => some (some (.inl x56), σ55)) else ts_bi (F_X5_sillAt [.inl a1, .inl (nI 2)] σ43) fun x58 σ57 => ts_bi (F_X5_become [.inr (.inr (.inl (6, 0))), .inl x58, .inl a3] σ57) fun x60 σ59 => some (some (.inl x60), σ59)) else ts_bi (F_X5_isSill [.inr (.inr (.inl (6, 0))), .inl a1] σ41) fun x62 σ61 => if x62 = nI 0 then (ts_bi (F_X5_finding [.inr (.inr (.inl (6, 0))), .inl (Int32.ofNat 4293967295)] σ61) fun x64 σ63 => some (some (.inl x64), σ63)) else if (nI 1) = nI 0 then (ts_bi (F_X5_finding [.inr (.inr (.inl (6, 0))), .inl (Int32.ofNat 4293967295)] σ61) fun x66 σ65 => some (some (.inl x66), σ65)) else if a2 = nI 0 then (ts_bi (F_X5_sillAt [.inl a1, .inl (nI 0)] σ61) fun x68 σ67 => ts_bi (F_X5_become [.inr (.inr (.inl (6, 0))), .inl x68, .inl a3] σ67) fun x70 σ69 => some (some (.inl x70), σ69)) else if a2 = (nI 2) then (ts_bi (F_X5_sillAt [.inl a1, .inl (nI 1)] σ61) fun x72 σ71 => ts_bi (F_X5_become [.inr (.inr (.inl (6, 0))), .inl x72, .inl a3] σ71) fun x74 σ73 => some (some (.inl x74), σ73)) else ts_bi (F_X5_sillAt [.inl a1, .inl (nI 2)] σ61) fun x76 σ75 => ts_bi (F_X5_become [.inr (.inr (.inl (6, 0))), .inl x76, .inl a3] σ75) fun x78 σ77 => some (some (.inl x78), σ77)) else ts_bi (F_X5_isSill [.inr (.inr (.inl (6, 0))), .inl a1] σ) fun x80 σ79 => if x80 = nI 0 then (ts_bi (F_X5_finding [.inr (.inr (.inl (6, 0))), .inl (Int32.ofNat 4293967295)] σ79) fun x82 σ81 => some (some (.inl x82), σ81)) else if (nI 0) = nI 0 then (ts_bi (F_X5_finding [.inr (.inr (.inl (6, 0))), .inl (Int32.ofNat 4293967295)] σ79) fun x84 σ83 => some (some (.inl x84), σ83)) else if a2 = nI 0 then (ts_bi (F_X5_sillAt [.inl a1, .inl (nI 0)] σ79) fun x86 σ85 => ts_bi (F_X5_become [.inr (.inr (.inl (6, 0))), .inl x86, .inl a3] σ85) fun x88 σ87 => some (some (.inl x88), σ87)) else if a2 = (nI 2) then (ts_bi (F_X5_sillAt [.inl a1, .inl (nI 1)] σ79) fun x90 σ89 => ts_bi (F_X5_become [.inr (.inr (.inl (6, 0))), .inl x90, .inl a3] σ89) fun x92 σ91 => some (some (.inl x92), σ91)) else ts_bi (F_X5_sillAt [.inl a1, .inl (nI 2)] σ79) fun x94 σ93 => ts_bi (F_X5_become [.inr (.inr (.inl (6, 0))), .inl x94, .inl a3] σ93) fun x96 σ95 => some (some (.inl x96), σ95)) := by
  exact (ts_unf E_X5_change tb_X5_change [] 54 _).trans rfl
set_option maxRecDepth 100000 in
set_option maxHeartbeats 2000000 in
theorem e_X5_lays (a1 : Int32) (a2 : Int32) (σ : ts_S) : F_X5_lays [.inr (.inr (.inl (6, 0))), .inl a1, .inl a2] σ = (ts_bi (F_X5_sillIs [.inr (.inr (.inl (6, 0))), .inl a1, .inl (nI 3)] σ) fun x2 σ1 => ts_bi (F_X5_sillAt [.inl a1, .inl ((nI 4) + x2)] σ1) fun x4 σ3 => ts_ck x4 111 <| ts_nw (ts_up σ3 6 1 (x4.toNatClampNeg) a2) fun σ5 => ts_bi (F_X5_sillAt [.inl a1, .inl (nI 3)] σ5) fun x7 σ6 => ts_ck x7 111 <| ts_ck x7 111 <| ts_nw (ts_up σ6 6 1 (x7.toNatClampNeg) ((σ6 6 1 (x7.toNatClampNeg)) + (nI 1))) fun σ8 => ts_bi (F_X5_sillIs [.inr (.inr (.inl (6, 0))), .inl a1, .inl (nI 3)] σ8) fun x10 σ9 => some (some (.inl x10), σ9)) := by
  exact (ts_unf E_X5_lays tb_X5_lays [] 30 _).trans rfl
set_option maxRecDepth 100000 in
set_option maxHeartbeats 2000000 in
theorem e_X5_lay (a1 : Int32) (a2 : Int32) (σ : ts_S) : F_X5_lay [.inr (.inr (.inl (6, 0))), .inl a1, .inl a2] σ = (ts_bi (F_X5_isSill [.inr (.inr (.inl (6, 0))), .inl a1] σ) fun x2 σ1 => if x2 = nI 0 then (ts_bi (F_X5_finding [.inr (.inr (.inl (6, 0))), .inl (Int32.ofNat 4293967295)] σ1) fun x4 σ3 => some (some (.inl x4), σ3)) else ts_bi (F_X5_isWordNumber [.inl a2] σ1) fun x6 σ5 => if x6 = nI 0 then (ts_bi (F_X5_finding [.inr (.inr (.inl (6, 0))), .inl (Int32.ofNat 4293967295)] σ5) fun x8 σ7 => some (some (.inl x8), σ7)) else ts_bi (F_X5_sillIs [.inr (.inr (.inl (6, 0))), .inl a1, .inl (nI 3)] σ5) fun x10 σ9 => if x10 = (nI 5) then (ts_bi (F_X5_finding [.inr (.inr (.inl (6, 0))), .inl (Int32.ofNat 4293967294)] σ9) fun x12 σ11 => some (some (.inl x12), σ11)) else ts_bi (F_X5_lays [.inr (.inr (.inl (6, 0))), .inl a1, .inl a2] σ9) fun x14 σ13 => some (some (.inl x14), σ13)) := by
  exact (ts_unf E_X5_lay tb_X5_lay [] 29 _).trans rfl
set_option maxRecDepth 100000 in
set_option maxHeartbeats 2000000 in
theorem e_X5_ofPerson (a1 : Int32) (a2 : Int32) (σ : ts_S) : F_X5_ofPerson [.inr (.inr (.inl (6, 0))), .inl a1, .inl a2] σ = (ts_bi (F_X5_isPerson [.inr (.inr (.inl (6, 0))), .inl a1] σ) fun x2 σ1 => if x2 = nI 0 then (ts_bi (F_X5_finding [.inr (.inr (.inl (6, 0))), .inl (Int32.ofNat 4293967295)] σ1) fun x4 σ3 => some (some (.inl x4), σ3)) else ts_bi (F_X5_within [.inl a2, .inl (nI 0), .inl (nI 2)] σ1) fun x6 σ5 => if x6 = nI 0 then (ts_bi (F_X5_finding [.inr (.inr (.inl (6, 0))), .inl (Int32.ofNat 4293967295)] σ5) fun x8 σ7 => some (some (.inl x8), σ7)) else ts_bi (F_X5_personIs [.inr (.inr (.inl (6, 0))), .inl a1, .inl a2] σ5) fun x10 σ9 => some (some (.inl x10), σ9)) := by
  exact (ts_unf E_X5_ofPerson tb_X5_ofPerson [] 21 _).trans rfl
set_option maxRecDepth 100000 in
set_option maxHeartbeats 2000000 in
theorem e_X5_send (a1 : Int32) (a2 : Int32) (a3 : Int32) (σ : ts_S) : F_X5_send [.inr (.inr (.inl (6, 0))), .inl a1, .inl a2, .inl a3] σ = (if a2 = nI 0 then (ts_bi (F_X5_isSet [.inl a3] σ) fun x2 σ1 => ts_bi (F_X5_isPerson [.inr (.inr (.inl (6, 0))), .inl a1] σ1) fun x4 σ3 => if x4 = nI 0 then (ts_bi (F_X5_finding [.inr (.inr (.inl (6, 0))), .inl (Int32.ofNat 4293967295)] σ3) fun x6 σ5 => some (some (.inl x6), σ5)) else if x2 = nI 0 then (ts_bi (F_X5_finding [.inr (.inr (.inl (6, 0))), .inl (Int32.ofNat 4293967295)] σ3) fun x8 σ7 => some (some (.inl x8), σ7)) else ts_bi (F_X5_personAt [.inl a1, .inl a2] σ3) fun x10 σ9 => ts_bi (F_X5_become [.inr (.inr (.inl (6, 0))), .inl x10, .inl a3] σ9) fun x12 σ11 => some (some (.inl x12), σ11)) else if a2 = (nI 1) then (if a3 = (-1) then (ts_bi (F_X5_isPerson [.inr (.inr (.inl (6, 0))), .inl a1] σ) fun x14 σ13 => if x14 = nI 0 then (ts_bi (F_X5_finding [.inr (.inr (.inl (6, 0))), .inl (Int32.ofNat 4293967295)] σ13) fun x16 σ15 => some (some (.inl x16), σ15)) else if (nI 1) = nI 0 then (ts_bi (F_X5_finding [.inr (.inr (.inl (6, 0))), .inl (Int32.ofNat 4293967295)] σ13) fun x18 σ17 => some (some (.inl x18), σ17)) else ts_bi (F_X5_personAt [.inl a1, .inl a2] σ13) fun x20 σ19 => ts_bi (F_X5_become [.inr (.inr (.inl (6, 0))), .inl x20, .inl a3] σ19) fun x22 σ21 => some (some (.inl x22), σ21)) else ts_bi (F_X5_isSill [.inr (.inr (.inl (6, 0))), .inl a3] σ) fun x24 σ23 => if x24 = nI 0 then (ts_bi (F_X5_isPerson [.inr (.inr (.inl (6, 0))), .inl a1] σ23) fun x26 σ25 => if x26 = nI 0 then (ts_bi (F_X5_finding [.inr (.inr (.inl (6, 0))), .inl (Int32.ofNat 4293967295)] σ25) fun x28 σ27 => some (some (.inl x28), σ27)) else if (nI 0) = nI 0 then (ts_bi (F_X5_finding [.inr (.inr (.inl (6, 0))), .inl (Int32.ofNat 4293967295)] σ25) fun x30 σ29 => some (some (.inl x30), σ29)) else ts_bi (F_X5_personAt [.inl a1, .inl a2] σ25) fun x32 σ31 => ts_bi (F_X5_become [.inr (.inr (.inl (6, 0))), .inl x32, .inl a3] σ31) fun x34 σ33 => some (some (.inl x34), σ33)) else ts_bi (F_X5_isPerson [.inr (.inr (.inl (6, 0))), .inl a1] σ23) fun x36 σ35 => if x36 = nI 0 then (ts_bi (F_X5_finding [.inr (.inr (.inl (6, 0))), .inl (Int32.ofNat 4293967295)] σ35) fun x38 σ37 => some (some (.inl x38), σ37)) else if (nI 1) = nI 0 then (ts_bi (F_X5_finding [.inr (.inr (.inl (6, 0))), .inl (Int32.ofNat 4293967295)] σ35) fun x40 σ39 => some (some (.inl x40), σ39)) else ts_bi (F_X5_personAt [.inl a1, .inl a2] σ35) fun x42 σ41 => ts_bi (F_X5_become [.inr (.inr (.inl (6, 0))), .inl x42, .inl a3] σ41) fun x44 σ43 => some (some (.inl x44), σ43)) else if a2 = (nI 2) then (ts_bi (F_X5_within [.inl a3, .inl (nI 0), .inl (nI 9999)] σ) fun x46 σ45 => if x46 = nI 0 then (ts_bi (F_X5_isPerson [.inr (.inr (.inl (6, 0))), .inl a1] σ45) fun x48 σ47 => if x48 = nI 0 then (ts_bi (F_X5_finding [.inr (.inr (.inl (6, 0))), .inl (Int32.ofNat 4293967295)] σ47) fun x50 σ49 => some (some (.inl x50), σ49)) else if (nI 0) = nI 0 then (ts_bi (F_X5_finding [.inr (.inr (.inl (6, 0))), .inl (Int32.ofNat 4293967295)] σ47) fun x52 σ51 => some (some (.inl x52), σ51)) else ts_bi (F_X5_personAt [.inl a1, .inl a2] σ47) fun x54 σ53 => ts_bi (F_X5_become [.inr (.inr (.inl (6, 0))), .inl x54, .inl a3] σ53) fun x56 σ55 => some (some (.inl x56), σ55)) else ts_bi (F_X5_isPerson [.inr (.inr (.inl (6, 0))), .inl a1] σ45) fun x58 σ57 => if x58 = nI 0 then (ts_bi (F_X5_finding [.inr (.inr (.inl (6, 0))), .inl (Int32.ofNat 4293967295)] σ57) fun x60 σ59 => some (some (.inl x60), σ59)) else if (nI 1) = nI 0 then (ts_bi (F_X5_finding [.inr (.inr (.inl (6, 0))), .inl (Int32.ofNat 4293967295)] σ57) fun x62 σ61 => some (some (.inl x62), σ61)) else ts_bi (F_X5_personAt [.inl a1, .inl a2] σ57) fun x64 σ63 => ts_bi (F_X5_become [.inr (.inr (.inl (6, 0))), .inl x64, .inl a3] σ63) fun x66 σ65 => some (some (.inl x66), σ65)) else ts_bi (F_X5_isPerson [.inr (.inr (.inl (6, 0))), .inl a1] σ) fun x68 σ67 => if x68 = nI 0 then (ts_bi (F_X5_finding [.inr (.inr (.inl (6, 0))), .inl (Int32.ofNat 4293967295)] σ67) fun x70 σ69 => some (some (.inl x70), σ69)) else if (nI 0) = nI 0 then (ts_bi (F_X5_finding [.inr (.inr (.inl (6, 0))), .inl (Int32.ofNat 4293967295)] σ67) fun x72 σ71 => some (some (.inl x72), σ71)) else ts_bi (F_X5_personAt [.inl a1, .inl a2] σ67) fun x74 σ73 => ts_bi (F_X5_become [.inr (.inr (.inl (6, 0))), .inl x74, .inl a3] σ73) fun x76 σ75 => some (some (.inl x76), σ75)) := by
  exact (ts_unf E_X5_send tb_X5_send [] 51 _).trans rfl
set_option maxRecDepth 100000 in
set_option maxHeartbeats 2000000 in
theorem e_X5_takes (a1 : Int32) (a2 : Int32) (σ : ts_S) : F_X5_takes [.inr (.inr (.inl (6, 0))), .inl a1, .inl a2] σ = (ts_bi (F_X5_isSill [.inr (.inr (.inl (6, 0))), .inl a1] σ) fun x2 σ1 => if x2 = nI 0 then (ts_bi (F_X5_finding [.inr (.inr (.inl (6, 0))), .inl (Int32.ofNat 4293967295)] σ1) fun x4 σ3 => some (some (.inl x4), σ3)) else ts_bi (F_X5_isSet [.inl a2] σ1) fun x6 σ5 => if x6 = nI 0 then (ts_bi (F_X5_finding [.inr (.inr (.inl (6, 0))), .inl (Int32.ofNat 4293967295)] σ5) fun x8 σ7 => some (some (.inl x8), σ7)) else ts_bi (F_X5_takesOf [.inr (.inr (.inl (6, 0))), .inl a1, .inl a2] σ5) fun x10 σ9 => ts_bi (F_X5_orNone [.inr (.inr (.inl (6, 0))), .inl x10] σ9) fun x12 σ11 => some (some (.inl x12), σ11)) := by
  exact (ts_unf E_X5_takes tb_X5_takes [] 21 _).trans rfl
set_option maxRecDepth 100000 in
set_option maxHeartbeats 2000000 in
theorem e_X5_more (a1 : Int32) (a2 : Int32) (a3 : Int32) (σ : ts_S) : F_X5_more [.inr (.inr (.inl (6, 0))), .inl a1, .inl a2, .inl a3] σ = (ts_ck a1 111 <| ts_bi (F_J9_min_7cf53 [.inl a3, .inl ((σ 6 1 (a1.toNatClampNeg)) + a2)] σ) fun x2 σ1 => ts_ck a1 111 <| ts_nw (ts_up σ1 6 1 (a1.toNatClampNeg) x2) fun σ3 => some (none, σ3)) := by
  exact (ts_unf E_X5_more tb_X5_more [] 16 _).trans rfl
set_option maxRecDepth 100000 in
set_option maxHeartbeats 2000000 in
theorem e_X5_mayCross (a1 : Int32) (a2 : Int32) (σ : ts_S) : F_X5_mayCross [.inr (.inr (.inl (6, 0))), .inl a1, .inl a2] σ = (ts_bi (F_X5_personIs [.inr (.inr (.inl (6, 0))), .inl a1, .inl (nI 1)] σ) fun x2 σ1 => ts_bi (F_X5_sillIs [.inr (.inr (.inl (6, 0))), .inl a2, .inl (nI 2)] σ1) fun x4 σ3 => if x4 = nI 0 then (if x2 = (-1) then (some (some (.inl (nI 1)), σ3)) else if x2 = a2 then (some (some (.inl (nI 1)), σ3)) else some (some (.inl (nI 0)), σ3)) else some (some (.inl (nI 0)), σ3)) := by
  exact (ts_unf E_X5_mayCross tb_X5_mayCross [] 23 _).trans rfl
set_option maxRecDepth 100000 in
set_option maxHeartbeats 2000000 in
theorem e_X5_goesIn (a1 : Int32) (a2 : Int32) (σ : ts_S) : F_X5_goesIn [.inr (.inr (.inl (6, 0))), .inl a1, .inl a2] σ = (ts_bi (F_X5_personIs [.inr (.inr (.inl (6, 0))), .inl a1, .inl (nI 0)] σ) fun x2 σ1 => ts_bi (F_X5_takesOf [.inr (.inr (.inl (6, 0))), .inl a2, .inl x2] σ1) fun x4 σ3 => ts_bi (F_X5_personAt [.inl a1, .inl (nI 1)] σ3) fun x6 σ5 => ts_ck x6 111 <| ts_nw (ts_up σ5 6 1 (x6.toNatClampNeg) a2) fun σ7 => if x4 < nI 0 then (some (some (.inl x4), σ7)) else ts_bi (F_X5_personAt [.inl a1, .inl (nI 0)] σ7) fun x9 σ8 => ts_ck x9 111 <| ts_ck x9 111 <| ts_nw (ts_up σ8 6 1 (x9.toNatClampNeg) ((σ8 6 1 (x9.toNatClampNeg)) &&& (((nI 1) <<< (x4 &&& nI 31)) ^^^ (-1)))) fun σ10 => ts_bi (F_X5_sillIs [.inr (.inr (.inl (6, 0))), .inl a2, .inl (nI 3)] σ10) fun x12 σ11 => ts_bi (F_X5_holds [.inr (.inr (.inl (6, 0))), .inl a2] σ11) fun x14 σ13 => if x14 ≤ x12 then (ts_bv (F_X5_more [.inr (.inr (.inl (6, 0))), .inl (nI 4), .inl (nI 1), .inl (nI 99999)] σ13) fun σ15 => some (some (.inl x4), σ15)) else ts_bi (F_X5_lays [.inr (.inr (.inl (6, 0))), .inl a2, .inl x4] σ13) fun x17 σ16 => some (some (.inl x4), σ16)) := by
  exact (ts_unf E_X5_goesIn tb_X5_goesIn [] 55 _).trans rfl
noncomputable def H_X5_comesOut_31 (v1 : Int32) (v2 : Int32) (v3 : Int32) (v4 : Int32) (v5 : Int32) (σ : ts_S) : Option ts_A := ts_R E_X5_comesOut tb_X5_comesOut (31, [some (.inr (.inr (.inl (6, 0)))), some (.inl v1), some (.inl v2), some (.inl v3), some (.inl v4), some (.inl v5)], [], σ)
set_option maxRecDepth 100000 in
set_option maxHeartbeats 2000000 in
theorem e_X5_comesOut (a1 : Int32) (a2 : Int32) (σ : ts_S) : F_X5_comesOut [.inr (.inr (.inl (6, 0))), .inl a1, .inl a2] σ = (ts_bi (F_X5_givesFrom [.inr (.inr (.inl (6, 0))), .inl a2] σ) fun x2 σ1 => ts_bi (F_X5_gives [.inr (.inr (.inl (6, 0))), .inl a2] σ1) fun x4 σ3 => ts_bi (F_X5_personAt [.inl a1, .inl (nI 1)] σ3) fun x6 σ5 => ts_ck x6 111 <| ts_nw (ts_up σ5 6 1 (x6.toNatClampNeg) (-1)) fun σ7 => if x2 < nI 0 then (some (some (.inl x4), σ7)) else H_X5_comesOut_31 a1 a2 x2 x4 x2 σ7) := by
  exact (ts_unf E_X5_comesOut tb_X5_comesOut [31] 88 _).trans rfl
set_option maxRecDepth 100000 in
set_option maxHeartbeats 2000000 in
theorem h_X5_comesOut_31 (v1 : Int32) (v2 : Int32) (v3 : Int32) (v4 : Int32) (v5 : Int32) (σ : ts_S) : H_X5_comesOut_31 v1 v2 v3 v4 v5 σ = (ts_bi (F_X5_sillIs [.inr (.inr (.inl (6, 0))), .inl v2, .inl (nI 3)] σ) fun x2 σ1 => if (x2 - (nI 1)) ≤ v5 then (ts_bi (F_X5_sillAt [.inl v2, .inl (nI 3)] σ1) fun x4 σ3 => ts_ck x4 111 <| ts_ck x4 111 <| ts_nw (ts_up σ3 6 1 (x4.toNatClampNeg) ((σ3 6 1 (x4.toNatClampNeg)) - (nI 1))) fun σ5 => ts_bi (F_X5_personIs [.inr (.inr (.inl (6, 0))), .inl v1, .inl (nI 0)] σ5) fun x7 σ6 => if ((x7 >>> (v4 &&& nI 31)) &&& (nI 1)) = (nI 1) then (ts_bv (F_X5_more [.inr (.inr (.inl (6, 0))), .inl (nI 4), .inl (nI 1), .inl (nI 99999)] σ6) fun σ8 => some (some (.inl v4), σ8)) else ts_bi (F_X5_personAt [.inl v1, .inl (nI 0)] σ6) fun x10 σ9 => ts_ck x10 111 <| ts_ck x10 111 <| ts_nw (ts_up σ9 6 1 (x10.toNatClampNeg) ((σ9 6 1 (x10.toNatClampNeg)) ||| ((nI 1) <<< (v4 &&& nI 31)))) fun σ11 => some (some (.inl v4), σ11)) else ts_bi (F_X5_sillAt [.inl v2, .inl ((nI 4) + v5)] σ1) fun x13 σ12 => ts_bi (F_X5_sillIs [.inr (.inr (.inl (6, 0))), .inl v2, .inl (((nI 4) + v5) + (nI 1))] σ12) fun x15 σ14 => ts_ck x13 111 <| ts_nw (ts_up σ14 6 1 (x13.toNatClampNeg) x15) fun σ16 => H_X5_comesOut_31 v1 v2 v3 v4 (v5 + (nI 1)) σ16) := by
  exact (ts_unf E_X5_comesOut tb_X5_comesOut [31] 88 _).trans rfl
set_option maxRecDepth 100000 in
set_option maxHeartbeats 2000000 in
theorem e_X5_crosses (a1 : Int32) (a2 : Int32) (σ : ts_S) : F_X5_crosses [.inr (.inr (.inl (6, 0))), .inl a1, .inl a2] σ = (ts_bi (F_X5_personIs [.inr (.inr (.inl (6, 0))), .inl a1, .inl (nI 1)] σ) fun x2 σ1 => if x2 = (-1) then (ts_bi (F_X5_goesIn [.inr (.inr (.inl (6, 0))), .inl a1, .inl a2] σ1) fun x4 σ3 => ts_bi (F_X5_sillAt [.inl a2, .inl (nI 1)] σ3) fun x6 σ5 => ts_bv (F_X5_more [.inr (.inr (.inl (6, 0))), .inl x6, .inl (nI 1), .inl (nI 9999)] σ5) fun σ7 => ts_bi (F_X5_personAt [.inl a1, .inl (nI 2)] σ7) fun x9 σ8 => ts_bv (F_X5_more [.inr (.inr (.inl (6, 0))), .inl x9, .inl (nI 1), .inl (nI 9999)] σ8) fun σ10 => some (some (.inl x4), σ10)) else ts_bi (F_X5_comesOut [.inr (.inr (.inl (6, 0))), .inl a1, .inl a2] σ1) fun x12 σ11 => ts_bi (F_X5_sillAt [.inl a2, .inl (nI 1)] σ11) fun x14 σ13 => ts_bv (F_X5_more [.inr (.inr (.inl (6, 0))), .inl x14, .inl (nI 1), .inl (nI 9999)] σ13) fun σ15 => ts_bi (F_X5_personAt [.inl a1, .inl (nI 2)] σ15) fun x17 σ16 => ts_bv (F_X5_more [.inr (.inr (.inl (6, 0))), .inl x17, .inl (nI 1), .inl (nI 9999)] σ16) fun σ18 => some (some (.inl x12), σ18)) := by
  exact (ts_unf E_X5_crosses tb_X5_crosses [] 35 _).trans rfl
set_option maxRecDepth 100000 in
set_option maxHeartbeats 2000000 in
theorem e_X5_cross (a1 : Int32) (a2 : Int32) (σ : ts_S) : F_X5_cross [.inr (.inr (.inl (6, 0))), .inl a1, .inl a2] σ = (ts_bi (F_X5_isPerson [.inr (.inr (.inl (6, 0))), .inl a1] σ) fun x2 σ1 => if x2 = nI 0 then (ts_bi (F_X5_finding [.inr (.inr (.inl (6, 0))), .inl (Int32.ofNat 4293967295)] σ1) fun x4 σ3 => some (some (.inl x4), σ3)) else ts_bi (F_X5_isSill [.inr (.inr (.inl (6, 0))), .inl a2] σ1) fun x6 σ5 => if x6 = nI 0 then (ts_bi (F_X5_finding [.inr (.inr (.inl (6, 0))), .inl (Int32.ofNat 4293967295)] σ5) fun x8 σ7 => some (some (.inl x8), σ7)) else ts_bi (F_X5_mayCross [.inr (.inr (.inl (6, 0))), .inl a1, .inl a2] σ5) fun x10 σ9 => if x10 = nI 0 then (ts_bi (F_X5_finding [.inr (.inr (.inl (6, 0))), .inl (Int32.ofNat 4293967291)] σ9) fun x12 σ11 => some (some (.inl x12), σ11)) else ts_bi (F_X5_crosses [.inr (.inr (.inl (6, 0))), .inl a1, .inl a2] σ9) fun x14 σ13 => some (some (.inl x14), σ13)) := by
  exact (ts_unf E_X5_cross tb_X5_cross [] 29 _).trans rfl
set_option maxRecDepth 100000 in
set_option maxHeartbeats 2000000 in
theorem e_X5_day (σ : ts_S) : F_X5_day [.inr (.inr (.inl (6, 0)))] σ = (ts_bi (F_X5_placeNow [.inr (.inr (.inl (6, 0)))] σ) fun x2 σ1 => ts_ck x2 111 <| ts_ni ((σ1 6 1 (x2.toNatClampNeg)) / (nI 10)) fun y3 => ts_bi (F_X5_placeNow [.inr (.inr (.inl (6, 0)))] σ1) fun x5 σ4 => ts_ck x5 111 <| ts_ni ((σ4 6 1 (x5.toNatClampNeg)) - (σ4 6 1 (x5.toNatClampNeg)) / (nI 10) * (nI 10)) fun y6 => ts_bi (F_X5_isPerson [.inr (.inr (.inl (6, 0))), .inl y3] σ4) fun x8 σ7 => if x8 = nI 0 then (ts_bv (F_X5_more [.inr (.inr (.inl (6, 0))), .inl (nI 0), .inl (nI 1), .inl (nI 99999)] σ7) fun σ9 => some (none, σ9)) else ts_bi (F_X5_isSill [.inr (.inr (.inl (6, 0))), .inl y6] σ7) fun x11 σ10 => if x11 = nI 0 then (ts_bv (F_X5_more [.inr (.inr (.inl (6, 0))), .inl (nI 0), .inl (nI 1), .inl (nI 99999)] σ10) fun σ12 => some (none, σ12)) else ts_bi (F_X5_mayCross [.inr (.inr (.inl (6, 0))), .inl y3, .inl y6] σ10) fun x14 σ13 => if x14 = nI 0 then (ts_bv (F_X5_more [.inr (.inr (.inl (6, 0))), .inl (nI 0), .inl (nI 1), .inl (nI 99999)] σ13) fun σ15 => some (none, σ15)) else ts_bi (F_X5_crosses [.inr (.inr (.inl (6, 0))), .inl y3, .inl y6] σ13) fun x17 σ16 => ts_bv (F_X5_more [.inr (.inr (.inl (6, 0))), .inl (nI 0), .inl (nI 1), .inl (nI 99999)] σ16) fun σ18 => some (none, σ18)) := by
  exact (ts_unf E_X5_day tb_X5_day [] 43 _).trans rfl
noncomputable def H_X5_daysGo_2 (v1 : Int32) (v2 : Int32) (σ : ts_S) : Option ts_A := ts_R E_X5_daysGo tb_X5_daysGo (2, [some (.inr (.inr (.inl (6, 0)))), some (.inl v1), some (.inl v2)], [], σ)
set_option maxRecDepth 100000 in
set_option maxHeartbeats 2000000 in
theorem e_X5_daysGo (a1 : Int32) (σ : ts_S) : F_X5_daysGo [.inr (.inr (.inl (6, 0))), .inl a1] σ = (H_X5_daysGo_2 a1 (nI 0) σ) := by
  exact (ts_unf E_X5_daysGo tb_X5_daysGo [2] 13 _).trans rfl
set_option maxRecDepth 100000 in
set_option maxHeartbeats 2000000 in
theorem h_X5_daysGo_2 (v1 : Int32) (v2 : Int32) (σ : ts_S) : H_X5_daysGo_2 v1 v2 σ = (if v1 ≤ v2 then (some (none, σ)) else ts_bv (F_X5_day [.inr (.inr (.inl (6, 0)))] σ) fun σ1 => H_X5_daysGo_2 v1 (v2 + (nI 1)) σ1) := by
  exact (ts_unf E_X5_daysGo tb_X5_daysGo [2] 13 _).trans rfl
set_option maxRecDepth 100000 in
set_option maxHeartbeats 2000000 in
theorem e_X5_go (a1 : Int32) (σ : ts_S) : F_X5_go [.inr (.inr (.inl (6, 0))), .inl a1] σ = (ts_bi (F_X5_within [.inl a1, .inl (nI 1), .inl (nI 60)] σ) fun x2 σ1 => if x2 = nI 0 then (ts_bi (F_X5_finding [.inr (.inr (.inl (6, 0))), .inl (Int32.ofNat 4293967295)] σ1) fun x4 σ3 => some (some (.inl x4), σ3)) else ts_ck (nI 0) 111 <| if ((σ1 6 1 0) + a1) ≤ (nI 99999) then (ts_bv (F_X5_daysGo [.inr (.inr (.inl (6, 0))), .inl a1] σ1) fun σ5 => ts_ck (nI 4) 111 <| some (some (.inl (σ5 6 1 4)), σ5)) else ts_bi (F_X5_finding [.inr (.inr (.inl (6, 0))), .inl (Int32.ofNat 4293967291)] σ1) fun x7 σ6 => some (some (.inl x7), σ6)) := by
  exact (ts_unf E_X5_go tb_X5_go [] 32 _).trans rfl
noncomputable def H_X5_sumOf_4 (v1 : Int32) (v2 : Int32) (v3 : Int32) (σ : ts_S) : Option ts_A := ts_R E_X5_sumOf tb_X5_sumOf (4, [some (.inr (.inr (.inl (6, 0)))), some (.inl v1), some (.inl v2), some (.inl v3)], [], σ)
set_option maxRecDepth 100000 in
set_option maxHeartbeats 2000000 in
theorem e_X5_sumOf (a1 : Int32) (σ : ts_S) : F_X5_sumOf [.inr (.inr (.inl (6, 0))), .inl a1] σ = (H_X5_sumOf_4 a1 (nI 0) (nI 0) σ) := by
  exact (ts_unf E_X5_sumOf tb_X5_sumOf [4] 24 _).trans rfl
set_option maxRecDepth 100000 in
set_option maxHeartbeats 2000000 in
theorem h_X5_sumOf_4 (v1 : Int32) (v2 : Int32) (v3 : Int32) (σ : ts_S) : H_X5_sumOf_4 v1 v2 v3 σ = (ts_ck (nI 1) 111 <| if (σ 6 1 1) ≤ v3 then (some (some (.inl v2), σ)) else ts_bi (F_X5_sillIs [.inr (.inr (.inl (6, 0))), .inl v3, .inl v1] σ) fun x2 σ1 => ts_ni (v2 + x2) fun y3 => H_X5_sumOf_4 v1 y3 (v3 + (nI 1)) σ1) := by
  exact (ts_unf E_X5_sumOf tb_X5_sumOf [4] 24 _).trans rfl
noncomputable def H_X5_heard_4 (v1 : Int32) (v2 : Int32) (σ : ts_S) : Option ts_A := ts_R E_X5_heard tb_X5_heard (4, [some (.inr (.inr (.inl (6, 0)))), some (.inl v1), some (.inl v2)], [], σ)
set_option maxRecDepth 100000 in
set_option maxHeartbeats 2000000 in
theorem e_X5_heard (σ : ts_S) : F_X5_heard [.inr (.inr (.inl (6, 0)))] σ = (H_X5_heard_4 (nI 0) (nI 0) σ) := by
  exact (ts_unf E_X5_heard tb_X5_heard [4] 24 _).trans rfl
set_option maxRecDepth 100000 in
set_option maxHeartbeats 2000000 in
theorem h_X5_heard_4 (v1 : Int32) (v2 : Int32) (σ : ts_S) : H_X5_heard_4 v1 v2 σ = (ts_ck (nI 3) 111 <| if (σ 6 1 3) ≤ v2 then (some (some (.inl v1), σ)) else ts_bi (F_X5_personIs [.inr (.inr (.inl (6, 0))), .inl v2, .inl (nI 0)] σ) fun x2 σ1 => ts_ni (v1 ||| x2) fun y3 => H_X5_heard_4 y3 (v2 + (nI 1)) σ1) := by
  exact (ts_unf E_X5_heard tb_X5_heard [4] 24 _).trans rfl
noncomputable def H_X5_allKept_4 (v1 : Int32) (v2 : Int32) (σ : ts_S) : Option ts_A := ts_R E_X5_allKept tb_X5_allKept (4, [some (.inr (.inr (.inl (6, 0)))), some (.inl v1), some (.inl v2)], [], σ)
set_option maxRecDepth 100000 in
set_option maxHeartbeats 2000000 in
theorem e_X5_allKept (σ : ts_S) : F_X5_allKept [.inr (.inr (.inl (6, 0)))] σ = (H_X5_allKept_4 (nI 0) (nI 0) σ) := by
  exact (ts_unf E_X5_allKept tb_X5_allKept [4] 23 _).trans rfl
set_option maxRecDepth 100000 in
set_option maxHeartbeats 2000000 in
theorem h_X5_allKept_4 (v1 : Int32) (v2 : Int32) (σ : ts_S) : H_X5_allKept_4 v1 v2 σ = (ts_ck (nI 1) 111 <| if (σ 6 1 1) ≤ v2 then (some (some (.inl v1), σ)) else ts_bi (F_X5_keptSet [.inr (.inr (.inl (6, 0))), .inl v2] σ) fun x2 σ1 => ts_ni (v1 ||| x2) fun y3 => H_X5_allKept_4 y3 (v2 + (nI 1)) σ1) := by
  exact (ts_unf E_X5_allKept tb_X5_allKept [4] 23 _).trans rfl
noncomputable def H_X5_inside_4 (v1 : Int32) (v2 : Int32) (σ : ts_S) : Option ts_A := ts_R E_X5_inside tb_X5_inside (4, [some (.inr (.inr (.inl (6, 0)))), some (.inl v1), some (.inl v2)], [], σ)
set_option maxRecDepth 100000 in
set_option maxHeartbeats 2000000 in
theorem e_X5_inside (σ : ts_S) : F_X5_inside [.inr (.inr (.inl (6, 0)))] σ = (H_X5_inside_4 (nI 0) (nI 0) σ) := by
  exact (ts_unf E_X5_inside tb_X5_inside [4] 30 _).trans rfl
set_option maxRecDepth 100000 in
set_option maxHeartbeats 2000000 in
theorem h_X5_inside_4 (v1 : Int32) (v2 : Int32) (σ : ts_S) : H_X5_inside_4 v1 v2 σ = (ts_ck (nI 3) 111 <| if (σ 6 1 3) ≤ v2 then (some (some (.inl v1), σ)) else ts_bi (F_X5_personIs [.inr (.inr (.inl (6, 0))), .inl v2, .inl (nI 1)] σ) fun x2 σ1 => if nI 0 ≤ x2 then (ts_ni (v1 ||| ((nI 1) <<< (v2 &&& nI 31))) fun y3 => H_X5_inside_4 y3 (v2 + (nI 1)) σ1) else ts_ni (v1 ||| (nI 0)) fun y4 => H_X5_inside_4 y4 (v2 + (nI 1)) σ1) := by
  exact (ts_unf E_X5_inside tb_X5_inside [4] 30 _).trans rfl
noncomputable def H_X5_muteOnes_4 (v1 : Int32) (v2 : Int32) (σ : ts_S) : Option ts_A := ts_R E_X5_muteOnes tb_X5_muteOnes (4, [some (.inr (.inr (.inl (6, 0)))), some (.inl v1), some (.inl v2)], [], σ)
set_option maxRecDepth 100000 in
set_option maxHeartbeats 2000000 in
theorem e_X5_muteOnes (σ : ts_S) : F_X5_muteOnes [.inr (.inr (.inl (6, 0)))] σ = (H_X5_muteOnes_4 (nI 0) (nI 0) σ) := by
  exact (ts_unf E_X5_muteOnes tb_X5_muteOnes [4] 30 _).trans rfl
set_option maxRecDepth 100000 in
set_option maxHeartbeats 2000000 in
theorem h_X5_muteOnes_4 (v1 : Int32) (v2 : Int32) (σ : ts_S) : H_X5_muteOnes_4 v1 v2 σ = (ts_ck (nI 3) 111 <| if (σ 6 1 3) ≤ v2 then (some (some (.inl v1), σ)) else ts_bi (F_X5_personIs [.inr (.inr (.inl (6, 0))), .inl v2, .inl (nI 0)] σ) fun x2 σ1 => if x2 = nI 0 then (ts_ni (v1 ||| ((nI 1) <<< (v2 &&& nI 31))) fun y3 => H_X5_muteOnes_4 y3 (v2 + (nI 1)) σ1) else ts_ni (v1 ||| (nI 0)) fun y4 => H_X5_muteOnes_4 y4 (v2 + (nI 1)) σ1) := by
  exact (ts_unf E_X5_muteOnes tb_X5_muteOnes [4] 30 _).trans rfl
end
section
/-! the methods' equations, part 4 -/
set_option maxRecDepth 100000 in
set_option maxHeartbeats 2000000 in
theorem e_X5_now (a1 : Int32) (σ : ts_S) : F_X5_now [.inr (.inr (.inl (6, 0))), .inl a1] σ = (if a1 = nI 0 then (ts_ck (nI 0) 111 <| some (some (.inl (σ 6 1 0)), σ)) else if a1 = nI 1 then (ts_ck (nI 4) 111 <| some (some (.inl (σ 6 1 4)), σ)) else if a1 = nI 2 then (ts_bi (F_X5_heard [.inr (.inr (.inl (6, 0)))] σ) fun x2 σ1 => some (some (.inl x2), σ1)) else if a1 = nI 3 then (ts_bi (F_X5_allKept [.inr (.inr (.inl (6, 0)))] σ) fun x4 σ3 => some (some (.inl x4), σ3)) else if a1 = nI 4 then (ts_bi (F_X5_inside [.inr (.inr (.inl (6, 0)))] σ) fun x6 σ5 => some (some (.inl x6), σ5)) else if a1 = nI 5 then (ts_bi (F_X5_muteOnes [.inr (.inr (.inl (6, 0)))] σ) fun x8 σ7 => some (some (.inl x8), σ7)) else if a1 = nI 6 then (ts_bi (F_X5_sumOf [.inr (.inr (.inl (6, 0))), .inl (nI 1)] σ) fun x10 σ9 => some (some (.inl x10), σ9)) else if a1 = nI 7 then (ts_bi (F_X5_sumOf [.inr (.inr (.inl (6, 0))), .inl (nI 3)] σ) fun x12 σ11 => some (some (.inl x12), σ11)) else ts_bi (F_X5_finding [.inr (.inr (.inl (6, 0))), .inl (Int32.ofNat 4293967295)] σ) fun x14 σ13 => some (some (.inl x14), σ13)) := by
  exact (ts_unf E_X5_now tb_X5_now [] 39 _).trans rfl
set_option maxRecDepth 100000 in
set_option maxHeartbeats 2000000 in
theorem e_X5_behind (a1 : Int32) (a2 : Int32) (σ : ts_S) : F_X5_behind [.inr (.inr (.inl (6, 0))), .inl a1, .inl a2] σ = (ts_bv (F_X5_copyRow [.inr (.inr (.inl (6, 1))), .inr (.inr (.inl (6, 3)))] σ) fun σ1 => ts_bv (F_X5_daysGo [.inr (.inr (.inl (6, 0))), .inl a2] σ1) fun σ2 => ts_ck a1 111 <| ts_bi (F_X5_putBack [.inr (.inr (.inl (6, 0))), .inl (σ2 6 1 (a1.toNatClampNeg))] σ2) fun x4 σ3 => some (some (.inl x4), σ3)) := by
  exact (ts_unf E_X5_behind tb_X5_behind [] 18 _).trans rfl
set_option maxRecDepth 100000 in
set_option maxHeartbeats 2000000 in
theorem e_X5_ahead (a1 : Int32) (a2 : Int32) (a3 : Int32) (σ : ts_S) : F_X5_ahead [.inr (.inr (.inl (6, 0))), .inl a1, .inl a2, .inl a3] σ = (ts_bi (F_X5_within [.inl a2, .inl (nI 1), .inl (nI 2)] σ) fun x2 σ1 => if x2 = nI 0 then (ts_bi (F_X5_within [.inl a2, .inl (nI 5), .inl (nI 6)] σ1) fun x4 σ3 => if x4 = nI 0 then (ts_bi (F_X5_isSill [.inr (.inr (.inl (6, 0))), .inl a1] σ3) fun x6 σ5 => if x6 = nI 0 then (ts_bi (F_X5_finding [.inr (.inr (.inl (6, 0))), .inl (Int32.ofNat 4293967295)] σ5) fun x8 σ7 => some (some (.inl x8), σ7)) else if (nI 0) = nI 0 then (ts_bi (F_X5_finding [.inr (.inr (.inl (6, 0))), .inl (Int32.ofNat 4293967295)] σ5) fun x10 σ9 => some (some (.inl x10), σ9)) else ts_bi (F_X5_within [.inl a3, .inl (nI 0), .inl (nI 100)] σ5) fun x12 σ11 => if x12 = nI 0 then (ts_bi (F_X5_finding [.inr (.inr (.inl (6, 0))), .inl (Int32.ofNat 4293967295)] σ11) fun x14 σ13 => some (some (.inl x14), σ13)) else ts_bv (F_X5_copyRow [.inr (.inr (.inl (6, 1))), .inr (.inr (.inl (6, 3)))] σ11) fun σ15 => ts_bv (F_X5_daysGo [.inr (.inr (.inl (6, 0))), .inl a3] σ15) fun σ16 => ts_bi (F_X5_told [.inr (.inr (.inl (6, 0))), .inl a1, .inl a2] σ16) fun x18 σ17 => ts_bi (F_X5_putBack [.inr (.inr (.inl (6, 0))), .inl x18] σ17) fun x20 σ19 => some (some (.inl x20), σ19)) else ts_bi (F_X5_isSill [.inr (.inr (.inl (6, 0))), .inl a1] σ3) fun x22 σ21 => if x22 = nI 0 then (ts_bi (F_X5_finding [.inr (.inr (.inl (6, 0))), .inl (Int32.ofNat 4293967295)] σ21) fun x24 σ23 => some (some (.inl x24), σ23)) else if (nI 1) = nI 0 then (ts_bi (F_X5_finding [.inr (.inr (.inl (6, 0))), .inl (Int32.ofNat 4293967295)] σ21) fun x26 σ25 => some (some (.inl x26), σ25)) else ts_bi (F_X5_within [.inl a3, .inl (nI 0), .inl (nI 100)] σ21) fun x28 σ27 => if x28 = nI 0 then (ts_bi (F_X5_finding [.inr (.inr (.inl (6, 0))), .inl (Int32.ofNat 4293967295)] σ27) fun x30 σ29 => some (some (.inl x30), σ29)) else ts_bv (F_X5_copyRow [.inr (.inr (.inl (6, 1))), .inr (.inr (.inl (6, 3)))] σ27) fun σ31 => ts_bv (F_X5_daysGo [.inr (.inr (.inl (6, 0))), .inl a3] σ31) fun σ32 => ts_bi (F_X5_told [.inr (.inr (.inl (6, 0))), .inl a1, .inl a2] σ32) fun x34 σ33 => ts_bi (F_X5_putBack [.inr (.inr (.inl (6, 0))), .inl x34] σ33) fun x36 σ35 => some (some (.inl x36), σ35)) else ts_bi (F_X5_isSill [.inr (.inr (.inl (6, 0))), .inl a1] σ1) fun x38 σ37 => if x38 = nI 0 then (ts_bi (F_X5_finding [.inr (.inr (.inl (6, 0))), .inl (Int32.ofNat 4293967295)] σ37) fun x40 σ39 => some (some (.inl x40), σ39)) else if (nI 1) = nI 0 then (ts_bi (F_X5_finding [.inr (.inr (.inl (6, 0))), .inl (Int32.ofNat 4293967295)] σ37) fun x42 σ41 => some (some (.inl x42), σ41)) else ts_bi (F_X5_within [.inl a3, .inl (nI 0), .inl (nI 100)] σ37) fun x44 σ43 => if x44 = nI 0 then (ts_bi (F_X5_finding [.inr (.inr (.inl (6, 0))), .inl (Int32.ofNat 4293967295)] σ43) fun x46 σ45 => some (some (.inl x46), σ45)) else ts_bv (F_X5_copyRow [.inr (.inr (.inl (6, 1))), .inr (.inr (.inl (6, 3)))] σ43) fun σ47 => ts_bv (F_X5_daysGo [.inr (.inr (.inl (6, 0))), .inl a3] σ47) fun σ48 => ts_bi (F_X5_told [.inr (.inr (.inl (6, 0))), .inl a1, .inl a2] σ48) fun x50 σ49 => ts_bi (F_X5_putBack [.inr (.inr (.inl (6, 0))), .inl x50] σ49) fun x52 σ51 => some (some (.inl x52), σ51)) := by
  exact (ts_unf E_X5_ahead tb_X5_ahead [] 47 _).trans rfl
set_option maxRecDepth 100000 in
set_option maxHeartbeats 2000000 in
theorem e_X5_later (a1 : Int32) (a2 : Int32) (a3 : Int32) (σ : ts_S) : F_X5_later [.inr (.inr (.inl (6, 0))), .inl a1, .inl a2, .inl a3] σ = (ts_bi (F_X5_isPerson [.inr (.inr (.inl (6, 0))), .inl a1] σ) fun x2 σ1 => if x2 = nI 0 then (ts_bi (F_X5_finding [.inr (.inr (.inl (6, 0))), .inl (Int32.ofNat 4293967295)] σ1) fun x4 σ3 => some (some (.inl x4), σ3)) else ts_bi (F_X5_within [.inl a2, .inl (nI 0), .inl (nI 2)] σ1) fun x6 σ5 => if x6 = nI 0 then (ts_bi (F_X5_finding [.inr (.inr (.inl (6, 0))), .inl (Int32.ofNat 4293967295)] σ5) fun x8 σ7 => some (some (.inl x8), σ7)) else ts_bi (F_X5_within [.inl a3, .inl (nI 0), .inl (nI 100)] σ5) fun x10 σ9 => if x10 = nI 0 then (ts_bi (F_X5_finding [.inr (.inr (.inl (6, 0))), .inl (Int32.ofNat 4293967295)] σ9) fun x12 σ11 => some (some (.inl x12), σ11)) else ts_bi (F_X5_personAt [.inl a1, .inl a2] σ9) fun x14 σ13 => ts_bi (F_X5_behind [.inr (.inr (.inl (6, 0))), .inl x14, .inl a3] σ13) fun x16 σ15 => some (some (.inl x16), σ15)) := by
  exact (ts_unf E_X5_later tb_X5_later [] 28 _).trans rfl
set_option maxRecDepth 100000 in
set_option maxHeartbeats 2000000 in
theorem e_X5_hasWord (a1 : Int32) (a2 : Int32) (σ : ts_S) : F_X5_hasWord [.inr (.inr (.inl (6, 0))), .inl a1, .inl a2] σ = (ts_bi (F_X5_personIs [.inr (.inr (.inl (6, 0))), .inl a1, .inl (nI 0)] σ) fun x2 σ1 => if ((x2 >>> (a2 &&& nI 31)) &&& (nI 1)) = (nI 1) then (some (some (.inl (nI 1)), σ1)) else some (some (.inl (nI 0)), σ1)) := by
  exact (ts_unf E_X5_hasWord tb_X5_hasWord [] 17 _).trans rfl
noncomputable def H_X5_hears_35 (v1 : Int32) (v2 : Int32) (v3 : Int32) (σ : ts_S) : Option ts_A := ts_R E_X5_hears tb_X5_hears (35, [some (.inr (.inr (.inl (6, 0)))), some (.inl v1), some (.inl v2), some (.inl v3)], [], σ)
set_option maxRecDepth 100000 in
set_option maxHeartbeats 2000000 in
theorem e_X5_hears (a1 : Int32) (a2 : Int32) (σ : ts_S) : F_X5_hears [.inr (.inr (.inl (6, 0))), .inl a1, .inl a2] σ = (ts_bi (F_X5_isPerson [.inr (.inr (.inl (6, 0))), .inl a1] σ) fun x2 σ1 => if x2 = nI 0 then (ts_bi (F_X5_finding [.inr (.inr (.inl (6, 0))), .inl (Int32.ofNat 4293967295)] σ1) fun x4 σ3 => some (some (.inl x4), σ3)) else ts_bi (F_X5_isWordNumber [.inl a2] σ1) fun x6 σ5 => if x6 = nI 0 then (ts_bi (F_X5_finding [.inr (.inr (.inl (6, 0))), .inl (Int32.ofNat 4293967295)] σ5) fun x8 σ7 => some (some (.inl x8), σ7)) else ts_bv (F_X5_copyRow [.inr (.inr (.inl (6, 1))), .inr (.inr (.inl (6, 3)))] σ5) fun σ9 => H_X5_hears_35 a1 a2 (nI 0) σ9) := by
  exact (ts_unf E_X5_hears tb_X5_hears [35] 46 _).trans rfl
set_option maxRecDepth 100000 in
set_option maxHeartbeats 2000000 in
theorem h_X5_hears_35 (v1 : Int32) (v2 : Int32) (v3 : Int32) (σ : ts_S) : H_X5_hears_35 v1 v2 v3 σ = (if (nI 200) ≤ v3 then (ts_bi (F_X5_hasWord [.inr (.inr (.inl (6, 0))), .inl v1, .inl v2] σ) fun x2 σ1 => if x2 = nI 0 then (ts_bi (F_X5_putBack [.inr (.inr (.inl (6, 0))), .inl (-1)] σ1) fun x4 σ3 => ts_bi (F_X5_orNone [.inr (.inr (.inl (6, 0))), .inl x4] σ3) fun x6 σ5 => some (some (.inl x6), σ5)) else ts_bi (F_X5_putBack [.inr (.inr (.inl (6, 0))), .inl v3] σ1) fun x8 σ7 => ts_bi (F_X5_orNone [.inr (.inr (.inl (6, 0))), .inl x8] σ7) fun x10 σ9 => some (some (.inl x10), σ9)) else ts_bi (F_X5_hasWord [.inr (.inr (.inl (6, 0))), .inl v1, .inl v2] σ) fun x12 σ11 => if x12 = nI 0 then (ts_bv (F_X5_day [.inr (.inr (.inl (6, 0)))] σ11) fun σ13 => H_X5_hears_35 v1 v2 (v3 + (nI 1)) σ13) else ts_bi (F_X5_hasWord [.inr (.inr (.inl (6, 0))), .inl v1, .inl v2] σ11) fun x15 σ14 => if x15 = nI 0 then (ts_bi (F_X5_putBack [.inr (.inr (.inl (6, 0))), .inl (-1)] σ14) fun x17 σ16 => ts_bi (F_X5_orNone [.inr (.inr (.inl (6, 0))), .inl x17] σ16) fun x19 σ18 => some (some (.inl x19), σ18)) else ts_bi (F_X5_putBack [.inr (.inr (.inl (6, 0))), .inl v3] σ14) fun x21 σ20 => ts_bi (F_X5_orNone [.inr (.inr (.inl (6, 0))), .inl x21] σ20) fun x23 σ22 => some (some (.inl x23), σ22)) := by
  exact (ts_unf E_X5_hears tb_X5_hears [35] 46 _).trans rfl
noncomputable def H_X5_daysTo_14 (v1 : Int32) (v2 : Int32) (v3 : Int32) (v4 : Int32) (σ : ts_S) : Option ts_A := ts_R E_X5_daysTo tb_X5_daysTo (14, [some (.inr (.inr (.inl (6, 0)))), some (.inl v1), some (.inl v2), some (.inl v3), some (.inl v4)], [], σ)
set_option maxRecDepth 100000 in
set_option maxHeartbeats 2000000 in
theorem e_X5_daysTo (a1 : Int32) (a2 : Int32) (a3 : Int32) (σ : ts_S) : F_X5_daysTo [.inr (.inr (.inl (6, 0))), .inl a1, .inl a2, .inl a3] σ = (ts_bv (F_X5_copyRow [.inr (.inr (.inl (6, 1))), .inr (.inr (.inl (6, 3)))] σ) fun σ1 => H_X5_daysTo_14 a1 a2 a3 (nI 0) σ1) := by
  exact (ts_unf E_X5_daysTo tb_X5_daysTo [14] 39 _).trans rfl
set_option maxRecDepth 100000 in
set_option maxHeartbeats 2000000 in
theorem h_X5_daysTo_14 (v1 : Int32) (v2 : Int32) (v3 : Int32) (v4 : Int32) (σ : ts_S) : H_X5_daysTo_14 v1 v2 v3 v4 σ = (if (nI 200) ≤ v4 then (ts_ck v1 111 <| ts_bi (F_X5_within [.inl (σ 6 1 (v1.toNatClampNeg)), .inl v2, .inl v3] σ) fun x2 σ1 => if x2 = nI 0 then (ts_bi (F_X5_putBack [.inr (.inr (.inl (6, 0))), .inl (-1)] σ1) fun x4 σ3 => some (some (.inl x4), σ3)) else ts_bi (F_X5_putBack [.inr (.inr (.inl (6, 0))), .inl v4] σ1) fun x6 σ5 => some (some (.inl x6), σ5)) else ts_ck v1 111 <| ts_bi (F_X5_within [.inl (σ 6 1 (v1.toNatClampNeg)), .inl v2, .inl v3] σ) fun x8 σ7 => if x8 = nI 0 then (ts_bv (F_X5_day [.inr (.inr (.inl (6, 0)))] σ7) fun σ9 => H_X5_daysTo_14 v1 v2 v3 (v4 + (nI 1)) σ9) else ts_ck v1 111 <| ts_bi (F_X5_within [.inl (σ7 6 1 (v1.toNatClampNeg)), .inl v2, .inl v3] σ7) fun x11 σ10 => if x11 = nI 0 then (ts_bi (F_X5_putBack [.inr (.inr (.inl (6, 0))), .inl (-1)] σ10) fun x13 σ12 => some (some (.inl x13), σ12)) else ts_bi (F_X5_putBack [.inr (.inr (.inl (6, 0))), .inl v4] σ10) fun x15 σ14 => some (some (.inl x15), σ14)) := by
  exact (ts_unf E_X5_daysTo tb_X5_daysTo [14] 39 _).trans rfl
set_option maxRecDepth 100000 in
set_option maxHeartbeats 2000000 in
theorem e_X5_waste (a1 : Int32) (σ : ts_S) : F_X5_waste [.inr (.inr (.inl (6, 0))), .inl a1] σ = (ts_bi (F_X5_within [.inl a1, .inl (nI 0), .inl (nI 99999)] σ) fun x2 σ1 => if x2 = nI 0 then (ts_bi (F_X5_finding [.inr (.inr (.inl (6, 0))), .inl (Int32.ofNat 4293967295)] σ1) fun x4 σ3 => some (some (.inl x4), σ3)) else ts_bi (F_X5_daysTo [.inr (.inr (.inl (6, 0))), .inl (nI 4), .inl a1, .inl (nI 99999)] σ1) fun x6 σ5 => ts_bi (F_X5_orNone [.inr (.inr (.inl (6, 0))), .inl x6] σ5) fun x8 σ7 => some (some (.inl x8), σ7)) := by
  exact (ts_unf E_X5_waste tb_X5_waste [] 20 _).trans rfl
set_option maxRecDepth 100000 in
set_option maxHeartbeats 2000000 in
theorem e_X5_mute (a1 : Int32) (σ : ts_S) : F_X5_mute [.inr (.inr (.inl (6, 0))), .inl a1] σ = (ts_bi (F_X5_isPerson [.inr (.inr (.inl (6, 0))), .inl a1] σ) fun x2 σ1 => if x2 = nI 0 then (ts_bi (F_X5_finding [.inr (.inr (.inl (6, 0))), .inl (Int32.ofNat 4293967295)] σ1) fun x4 σ3 => some (some (.inl x4), σ3)) else ts_bi (F_X5_personAt [.inl a1, .inl (nI 0)] σ1) fun x6 σ5 => ts_bi (F_X5_daysTo [.inr (.inr (.inl (6, 0))), .inl x6, .inl (nI 0), .inl (nI 0)] σ5) fun x8 σ7 => ts_bi (F_X5_orNone [.inr (.inr (.inl (6, 0))), .inl x8] σ7) fun x10 σ9 => some (some (.inl x10), σ9)) := by
  exact (ts_unf E_X5_mute tb_X5_mute [] 21 _).trans rfl
set_option maxRecDepth 100000 in
set_option maxHeartbeats 2000000 in
theorem e_X5_isThought (a1 : Int32) (σ : ts_S) : F_X5_isThought [.inl a1] σ = (ts_bi (F_X5_within [.inl a1, .inl (nI 0), .inl (nI 60)] σ) fun x2 σ1 => if x2 = nI 0 ∨ x2 = nI 1 then some (some (.inl x2), σ1) else none) := by
  exact (ts_unf E_X5_isThought tb_X5_isThought [] 8 _).trans rfl
noncomputable def H_X5_leastLost_18 (v1 : Int32) (v2 : Int32) (v3 : Int32) (v4 : Int32) (v5 : Int32) (v6 : Int32) (v7 : Int32) (v8 : Int32) (σ : ts_S) : Option ts_A := ts_R E_X5_leastLost tb_X5_leastLost (18, [some (.inr (.inr (.inl (6, 0)))), some (.inl v1), some (.inl v2), some (.inl v3), some (.inl v4), some (.inl v5), some (.inl v6), some (.inl v7), some (.inl v8), none], [], σ)
set_option maxRecDepth 100000 in
set_option maxHeartbeats 2000000 in
theorem e_X5_leastLost (a1 : Int32) (a2 : Int32) (a3 : Int32) (a4 : Int32) (σ : ts_S) : F_X5_leastLost [.inr (.inr (.inl (6, 0))), .inl a1, .inl a2, .inl a3, .inl a4] σ = (ts_ck a1 111 <| ts_ni (σ 6 1 (a1.toNatClampNeg)) fun y1 => H_X5_leastLost_18 a1 a2 a3 a4 y1 (nI 0) (nI 100000) (nI 0) σ) := by
  exact (ts_unf E_X5_leastLost tb_X5_leastLost [18] 45 _).trans rfl
set_option maxRecDepth 100000 in
set_option maxHeartbeats 2000000 in
theorem h_X5_leastLost_18 (v1 : Int32) (v2 : Int32) (v3 : Int32) (v4 : Int32) (v5 : Int32) (v6 : Int32) (v7 : Int32) (v8 : Int32) (σ : ts_S) : H_X5_leastLost_18 v1 v2 v3 v4 v5 v6 v7 v8 σ = (if v3 ≤ v8 then (ts_ck v1 111 <| ts_nw (ts_up σ 6 1 (v1.toNatClampNeg) v5) fun σ1 => some (some (.inl v6), σ1)) else ts_ck v1 111 <| ts_nw (ts_up σ 6 1 (v1.toNatClampNeg) (v2 + v8)) fun σ2 => ts_bi (F_X5_behind [.inr (.inr (.inl (6, 0))), .inl (nI 4), .inl v4] σ2) fun x4 σ3 => if v7 ≤ x4 then (H_X5_leastLost_18 v1 v2 v3 v4 v5 v6 v7 (v8 + (nI 1)) σ3) else H_X5_leastLost_18 v1 v2 v3 v4 v5 v8 x4 (v8 + (nI 1)) σ3) := by
  exact (ts_unf E_X5_leastLost tb_X5_leastLost [18] 45 _).trans rfl
set_option maxRecDepth 100000 in
set_option maxHeartbeats 2000000 in
theorem e_X5_sillFor (a1 : Int32) (a2 : Int32) (σ : ts_S) : F_X5_sillFor [.inr (.inr (.inl (6, 0))), .inl a1, .inl a2] σ = (ts_bi (F_X5_isPlace [.inl a1] σ) fun x2 σ1 => if x2 = nI 0 then (ts_bi (F_X5_finding [.inr (.inr (.inl (6, 0))), .inl (Int32.ofNat 4293967295)] σ1) fun x4 σ3 => some (some (.inl x4), σ3)) else ts_bi (F_X5_isThought [.inl a2] σ1) fun x6 σ5 => if x6 = nI 0 then (ts_bi (F_X5_finding [.inr (.inr (.inl (6, 0))), .inl (Int32.ofNat 4293967295)] σ5) fun x8 σ7 => some (some (.inl x8), σ7)) else ts_ck ((nI 5) + a1) 111 <| ts_bi (F_X5_leastLost [.inr (.inr (.inl (6, 0))), .inl ((nI 5) + a1), .inl (((σ5 6 1 (((nI 5) + a1).toNatClampNeg)) / (nI 10)) * (nI 10)), .inl (nI 8), .inl a2] σ5) fun x10 σ9 => some (some (.inl x10), σ9)) := by
  exact (ts_unf E_X5_sillFor tb_X5_sillFor [] 31 _).trans rfl
set_option maxRecDepth 100000 in
set_option maxHeartbeats 2000000 in
theorem e_X5_kindFor (a1 : Int32) (a2 : Int32) (σ : ts_S) : F_X5_kindFor [.inr (.inr (.inl (6, 0))), .inl a1, .inl a2] σ = (ts_bi (F_X5_isSill [.inr (.inr (.inl (6, 0))), .inl a1] σ) fun x2 σ1 => if x2 = nI 0 then (ts_bi (F_X5_finding [.inr (.inr (.inl (6, 0))), .inl (Int32.ofNat 4293967295)] σ1) fun x4 σ3 => some (some (.inl x4), σ3)) else ts_bi (F_X5_isThought [.inl a2] σ1) fun x6 σ5 => if x6 = nI 0 then (ts_bi (F_X5_finding [.inr (.inr (.inl (6, 0))), .inl (Int32.ofNat 4293967295)] σ5) fun x8 σ7 => some (some (.inl x8), σ7)) else ts_bi (F_X5_sillAt [.inl a1, .inl (nI 0)] σ5) fun x10 σ9 => ts_bi (F_X5_leastLost [.inr (.inr (.inl (6, 0))), .inl x10, .inl (nI 0), .inl (nI 7), .inl a2] σ9) fun x12 σ11 => some (some (.inl x12), σ11)) := by
  exact (ts_unf E_X5_kindFor tb_X5_kindFor [] 23 _).trans rfl
noncomputable def H_X5_wordFor_57 (v1 : Int32) (v2 : Int32) (v3 : Int32) (v4 : Int32) (v5 : Int32) (v6 : Int32) (v7 : Int32) (σ : ts_S) : Option ts_A := ts_R E_X5_wordFor tb_X5_wordFor (57, [some (.inr (.inr (.inl (6, 0)))), some (.inl v1), some (.inl v2), some (.inl v3), some (.inl v4), some (.inl v5), some (.inl v6), some (.inl v7), none], [], σ)
set_option maxRecDepth 100000 in
set_option maxHeartbeats 2000000 in
theorem e_X5_wordFor (a1 : Int32) (a2 : Int32) (a3 : Int32) (σ : ts_S) : F_X5_wordFor [.inr (.inr (.inl (6, 0))), .inl a1, .inl a2, .inl a3] σ = (ts_bi (F_X5_isPerson [.inr (.inr (.inl (6, 0))), .inl a1] σ) fun x2 σ1 => if x2 = nI 0 then (ts_bi (F_X5_finding [.inr (.inr (.inl (6, 0))), .inl (Int32.ofNat 4293967295)] σ1) fun x4 σ3 => some (some (.inl x4), σ3)) else ts_bi (F_X5_isPerson [.inr (.inr (.inl (6, 0))), .inl a2] σ1) fun x6 σ5 => if x6 = nI 0 then (ts_bi (F_X5_finding [.inr (.inr (.inl (6, 0))), .inl (Int32.ofNat 4293967295)] σ5) fun x8 σ7 => some (some (.inl x8), σ7)) else if a1 = a2 then (ts_bi (F_X5_finding [.inr (.inr (.inl (6, 0))), .inl (Int32.ofNat 4293967295)] σ5) fun x10 σ9 => some (some (.inl x10), σ9)) else ts_bi (F_X5_isThought [.inl a3] σ5) fun x12 σ11 => if x12 = nI 0 then (ts_bi (F_X5_finding [.inr (.inr (.inl (6, 0))), .inl (Int32.ofNat 4293967295)] σ11) fun x14 σ13 => some (some (.inl x14), σ13)) else ts_bi (F_X5_personAt [.inl a1, .inl (nI 0)] σ11) fun x16 σ15 => ts_ck x16 111 <| ts_ni (σ15 6 1 (x16.toNatClampNeg)) fun y17 => H_X5_wordFor_57 a1 a2 a3 x16 y17 (-1) (nI 0) σ15) := by
  exact (ts_unf E_X5_wordFor tb_X5_wordFor [57] 84 _).trans rfl
set_option maxRecDepth 100000 in
set_option maxHeartbeats 2000000 in
theorem h_X5_wordFor_57 (v1 : Int32) (v2 : Int32) (v3 : Int32) (v4 : Int32) (v5 : Int32) (v6 : Int32) (v7 : Int32) (σ : ts_S) : H_X5_wordFor_57 v1 v2 v3 v4 v5 v6 v7 σ = (if (nI 12) ≤ v7 then (ts_ck v4 111 <| ts_nw (ts_up σ 6 1 (v4.toNatClampNeg) v5) fun σ1 => ts_bi (F_X5_orNone [.inr (.inr (.inl (6, 0))), .inl v6] σ1) fun x3 σ2 => some (some (.inl x3), σ2)) else if nI 0 ≤ v6 then (ts_ck v4 111 <| ts_nw (ts_up σ 6 1 (v4.toNatClampNeg) v5) fun σ4 => ts_bi (F_X5_orNone [.inr (.inr (.inl (6, 0))), .inl v6] σ4) fun x6 σ5 => some (some (.inl x6), σ5)) else ts_ck v4 111 <| ts_nw (ts_up σ 6 1 (v4.toNatClampNeg) ((nI 1) <<< (v7 &&& nI 31))) fun σ7 => ts_bi (F_X5_hasWord [.inr (.inr (.inl (6, 0))), .inl v2, .inl v7] σ7) fun x9 σ8 => if x9 = nI 0 then (ts_bi (F_X5_personAt [.inl v2, .inl (nI 0)] σ8) fun x11 σ10 => ts_bi (F_X5_behind [.inr (.inr (.inl (6, 0))), .inl x11, .inl v3] σ10) fun x13 σ12 => if ((x13 >>> (v7 &&& nI 31)) &&& (nI 1)) = (nI 1) then (if (nI 1) = nI 0 then (H_X5_wordFor_57 v1 v2 v3 v4 v5 (-1) (v7 + (nI 1)) σ12) else H_X5_wordFor_57 v1 v2 v3 v4 v5 v7 (v7 + (nI 1)) σ12) else if (nI 0) = nI 0 then (H_X5_wordFor_57 v1 v2 v3 v4 v5 (-1) (v7 + (nI 1)) σ12) else H_X5_wordFor_57 v1 v2 v3 v4 v5 v7 (v7 + (nI 1)) σ12) else if (nI 0) = nI 0 then (H_X5_wordFor_57 v1 v2 v3 v4 v5 (-1) (v7 + (nI 1)) σ8) else H_X5_wordFor_57 v1 v2 v3 v4 v5 v7 (v7 + (nI 1)) σ8) := by
  exact (ts_unf E_X5_wordFor tb_X5_wordFor [57] 84 _).trans rfl
noncomputable def H_X5_staysAway_14 (v1 : Int32) (v2 : Int32) (v3 : Int32) (v4 : Int32) (v5 : Int32) (σ : ts_S) : Option ts_A := ts_R E_X5_staysAway tb_X5_staysAway (14, [some (.inr (.inr (.inl (6, 0)))), some (.inl v1), some (.inl v2), some (.inl v3), some (.inl v4), some (.inl v5)], [], σ)
set_option maxRecDepth 100000 in
set_option maxHeartbeats 2000000 in
theorem e_X5_staysAway (a1 : Int32) (a2 : Int32) (a3 : Int32) (a4 : Int32) (σ : ts_S) : F_X5_staysAway [.inr (.inr (.inl (6, 0))), .inl a1, .inl a2, .inl a3, .inl a4] σ = (ts_bv (F_X5_copyRow [.inr (.inr (.inl (6, 1))), .inr (.inr (.inl (6, 3)))] σ) fun σ1 => H_X5_staysAway_14 a1 a2 a3 a4 (nI 0) σ1) := by
  exact (ts_unf E_X5_staysAway tb_X5_staysAway [14] 51 _).trans rfl
set_option maxRecDepth 100000 in
set_option maxHeartbeats 2000000 in
theorem h_X5_staysAway_14 (v1 : Int32) (v2 : Int32) (v3 : Int32) (v4 : Int32) (v5 : Int32) (σ : ts_S) : H_X5_staysAway_14 v1 v2 v3 v4 v5 σ = (ts_ck (nI 1) 111 <| if (σ 6 1 1) ≤ v5 then (ts_bv (F_X5_daysGo [.inr (.inr (.inl (6, 0))), .inl v4] σ) fun σ1 => ts_bi (F_X5_hasWord [.inr (.inr (.inl (6, 0))), .inl v2, .inl v3] σ1) fun x3 σ2 => if x3 = nI 0 then (ts_bv (F_X5_copyRow [.inr (.inr (.inl (6, 3))), .inr (.inr (.inl (6, 1)))] σ2) fun σ4 => some (some (.inl (nI 1)), σ4)) else ts_bv (F_X5_copyRow [.inr (.inr (.inl (6, 3))), .inr (.inr (.inl (6, 1)))] σ2) fun σ5 => some (some (.inl (nI 0)), σ5)) else if ((v1 >>> (v5 &&& nI 31)) &&& (nI 1)) = (nI 1) then (ts_bi (F_X5_sillAt [.inl v5, .inl (nI 2)] σ) fun x7 σ6 => ts_ck x7 111 <| ts_nw (ts_up σ6 6 1 (x7.toNatClampNeg) (nI 1)) fun σ8 => H_X5_staysAway_14 v1 v2 v3 v4 (v5 + (nI 1)) σ8) else H_X5_staysAway_14 v1 v2 v3 v4 (v5 + (nI 1)) σ) := by
  exact (ts_unf E_X5_staysAway tb_X5_staysAway [14] 51 _).trans rfl
noncomputable def H_X5_mend_47 (v1 : Int32) (v2 : Int32) (v3 : Int32) (v4 : Int32) (v5 : Int32) (σ : ts_S) : Option ts_A := ts_R E_X5_mend tb_X5_mend (47, [some (.inr (.inr (.inl (6, 0)))), some (.inl v1), some (.inl v2), some (.inl v3), some (.inl v4), some (.inl v5)], [], σ)
set_option maxRecDepth 100000 in
set_option maxHeartbeats 2000000 in
theorem e_X5_mend (a1 : Int32) (a2 : Int32) (a3 : Int32) (σ : ts_S) : F_X5_mend [.inr (.inr (.inl (6, 0))), .inl a1, .inl a2, .inl a3] σ = (ts_bi (F_X5_isPerson [.inr (.inr (.inl (6, 0))), .inl a1] σ) fun x2 σ1 => if x2 = nI 0 then (ts_bi (F_X5_finding [.inr (.inr (.inl (6, 0))), .inl (Int32.ofNat 4293967295)] σ1) fun x4 σ3 => some (some (.inl x4), σ3)) else ts_bi (F_X5_isWordNumber [.inl a2] σ1) fun x6 σ5 => if x6 = nI 0 then (ts_bi (F_X5_finding [.inr (.inr (.inl (6, 0))), .inl (Int32.ofNat 4293967295)] σ5) fun x8 σ7 => some (some (.inl x8), σ7)) else ts_bi (F_X5_within [.inl a3, .inl (nI 0), .inl (nI 20)] σ5) fun x10 σ9 => if x10 = nI 0 then (ts_bi (F_X5_finding [.inr (.inr (.inl (6, 0))), .inl (Int32.ofNat 4293967295)] σ9) fun x12 σ11 => some (some (.inl x12), σ11)) else ts_ck (nI 1) 111 <| ts_ni (((nI 1) <<< ((σ9 6 1 1) &&& nI 31)) - (nI 1)) fun y13 => H_X5_mend_47 a1 a2 a3 (-1) y13 σ9) := by
  exact (ts_unf E_X5_mend tb_X5_mend [47] 56 _).trans rfl
set_option maxRecDepth 100000 in
set_option maxHeartbeats 2000000 in
theorem h_X5_mend_47 (v1 : Int32) (v2 : Int32) (v3 : Int32) (v4 : Int32) (v5 : Int32) (σ : ts_S) : H_X5_mend_47 v1 v2 v3 v4 v5 σ = (if v5 < nI 0 then (ts_bi (F_X5_orNone [.inr (.inr (.inl (6, 0))), .inl v4] σ) fun x2 σ1 => some (some (.inl x2), σ1)) else if v4 < nI 0 then (ts_bi (F_X5_staysAway [.inr (.inr (.inl (6, 0))), .inl v5, .inl v1, .inl v2, .inl v3] σ) fun x4 σ3 => if x4 = nI 0 then (H_X5_mend_47 v1 v2 v3 v4 (v5 + (-1)) σ3) else H_X5_mend_47 v1 v2 v3 v5 (v5 + (-1)) σ3) else ts_bi (F_X5_bits [.inl v5] σ) fun x6 σ5 => ts_bi (F_X5_bits [.inl v4] σ5) fun x8 σ7 => if x8 < x6 then (H_X5_mend_47 v1 v2 v3 v4 (v5 + (-1)) σ7) else ts_bi (F_X5_staysAway [.inr (.inr (.inl (6, 0))), .inl v5, .inl v1, .inl v2, .inl v3] σ7) fun x10 σ9 => if x10 = nI 0 then (H_X5_mend_47 v1 v2 v3 v4 (v5 + (-1)) σ9) else H_X5_mend_47 v1 v2 v3 v5 (v5 + (-1)) σ9) := by
  exact (ts_unf E_X5_mend tb_X5_mend [47] 56 _).trans rfl
noncomputable def H_X5_seek_63 (v1 : Int32) (v2 : Int32) (v3 : Int32) (v4 : Int32) (σ : ts_S) : Option ts_A := ts_R E_X5_seek tb_X5_seek (63, [some (.inr (.inr (.inl (6, 0)))), some (.inl v1), some (.inl v2), some (.inl v3), some (.inl v4)], [], σ)
set_option maxRecDepth 100000 in
set_option maxHeartbeats 2000000 in
theorem e_X5_seek (a1 : Int32) (a2 : Int32) (σ : ts_S) : F_X5_seek [.inr (.inr (.inl (6, 0))), .inl a1, .inl a2] σ = (ts_bi (F_X5_isPerson [.inr (.inr (.inl (6, 0))), .inl a1] σ) fun x2 σ1 => if x2 = nI 0 then (ts_bi (F_X5_finding [.inr (.inr (.inl (6, 0))), .inl (Int32.ofNat 4293967295)] σ1) fun x4 σ3 => some (some (.inl x4), σ3)) else ts_bi (F_X5_isWordNumber [.inl a2] σ1) fun x6 σ5 => if x6 = nI 0 then (ts_bi (F_X5_finding [.inr (.inr (.inl (6, 0))), .inl (Int32.ofNat 4293967295)] σ5) fun x8 σ7 => some (some (.inl x8), σ7)) else ts_bi (F_X5_personIs [.inr (.inr (.inl (6, 0))), .inl a1, .inl (nI 1)] σ5) fun x10 σ9 => if nI 0 ≤ x10 then (ts_bi (F_X5_finding [.inr (.inr (.inl (6, 0))), .inl (Int32.ofNat 4293967291)] σ9) fun x12 σ11 => some (some (.inl x12), σ11)) else ts_bi (F_X5_hasWord [.inr (.inr (.inl (6, 0))), .inl a1, .inl a2] σ9) fun x14 σ13 => if x14 = nI 0 then (ts_bv (F_X5_copyRow [.inr (.inr (.inl (6, 1))), .inr (.inr (.inl (6, 3)))] σ13) fun σ15 => H_X5_seek_63 a1 a2 (-1) (nI 0) σ15) else ts_bi (F_X5_finding [.inr (.inr (.inl (6, 0))), .inl (Int32.ofNat 4293967291)] σ13) fun x17 σ16 => some (some (.inl x17), σ16)) := by
  exact (ts_unf E_X5_seek tb_X5_seek [63] 77 _).trans rfl
set_option maxRecDepth 100000 in
set_option maxHeartbeats 2000000 in
theorem h_X5_seek_63 (v1 : Int32) (v2 : Int32) (v3 : Int32) (v4 : Int32) (σ : ts_S) : H_X5_seek_63 v1 v2 v3 v4 σ = (ts_ck (nI 1) 111 <| if (σ 6 1 1) ≤ v4 then (ts_bi (F_X5_putBack [.inr (.inr (.inl (6, 0))), .inl v3] σ) fun x2 σ1 => ts_bi (F_X5_orNone [.inr (.inr (.inl (6, 0))), .inl x2] σ1) fun x4 σ3 => some (some (.inl x4), σ3)) else if nI 0 ≤ v3 then (ts_bi (F_X5_putBack [.inr (.inr (.inl (6, 0))), .inl v3] σ) fun x6 σ5 => ts_bi (F_X5_orNone [.inr (.inr (.inl (6, 0))), .inl x6] σ5) fun x8 σ7 => some (some (.inl x8), σ7)) else ts_bi (F_X5_mayCross [.inr (.inr (.inl (6, 0))), .inl v1, .inl v4] σ) fun x10 σ9 => if x10 = nI 0 then (H_X5_seek_63 v1 v2 v3 (v4 + (nI 1)) σ9) else ts_bi (F_X5_crosses [.inr (.inr (.inl (6, 0))), .inl v1, .inl v4] σ9) fun x12 σ11 => ts_bi (F_X5_crosses [.inr (.inr (.inl (6, 0))), .inl v1, .inl v4] σ11) fun x14 σ13 => ts_bi (F_X5_hasWord [.inr (.inr (.inl (6, 0))), .inl v1, .inl v2] σ13) fun x16 σ15 => if x16 = nI 0 then (H_X5_seek_63 v1 v2 (-1) (v4 + (nI 1)) σ15) else H_X5_seek_63 v1 v2 v4 (v4 + (nI 1)) σ15) := by
  exact (ts_unf E_X5_seek tb_X5_seek [63] 77 _).trans rfl
set_option maxRecDepth 100000 in
set_option maxHeartbeats 2000000 in
theorem e_X5_isSheet (a1 : Int32) (σ : ts_S) : F_X5_isSheet [.inl a1] σ = (ts_bi (F_X5_within [.inl a1, .inl (nI 0), .inl (nI 3)] σ) fun x2 σ1 => if x2 = nI 0 ∨ x2 = nI 1 then some (some (.inl x2), σ1) else none) := by
  exact (ts_unf E_X5_isSheet tb_X5_isSheet [] 8 _).trans rfl
set_option maxRecDepth 100000 in
set_option maxHeartbeats 2000000 in
theorem e_X5_lacks (a1 : Int32) (a2 : Int32) (σ : ts_S) : F_X5_lacks [.inr (.inr (.inl (6, 0))), .inl a1, .inl a2] σ = (ts_bi (F_X5_isSheet [.inl a1] σ) fun x2 σ1 => if x2 = nI 0 then (some (some (.inl (Int32.ofNat 4293967295)), σ1)) else ts_ck a1 4 <| if (σ1 6 8 (a1.toNatClampNeg)) = nI 0 then (some (some (.inl (Int32.ofNat 4293967290)), σ1)) else if a2 = nI 0 then (some (some (.inl (Int32.ofNat 4293967295)), σ1)) else some (some (.inl (nI 0)), σ1)) := by
  exact (ts_unf E_X5_lacks tb_X5_lacks [] 21 _).trans rfl
noncomputable def H_X5_isSo_16 (v1 : Int32) (v2 : Int32) (v3 : Int32) (v4 : Int32) (σ : ts_S) : Option ts_A := ts_R E_X5_isSo tb_X5_isSo (16, [some (.inr (.inr (.inl (6, 0)))), some (.inl v1), some (.inl v2), some (.inl v3), some (.inl v4), none], [], σ)
set_option maxRecDepth 100000 in
set_option maxHeartbeats 2000000 in
theorem e_X5_isSo (a1 : Int32) (a2 : Int32) (σ : ts_S) : F_X5_isSo [.inr (.inr (.inl (6, 0))), .inl a1, .inl a2] σ = (ts_bv (F_X5_copyRow [.inr (.inr (.inl (6, 1))), .inr (.inr (.inl (6, 3)))] σ) fun σ1 => H_X5_isSo_16 a1 a2 (nI 1) (nI 0) σ1) := by
  exact (ts_unf E_X5_isSo tb_X5_isSo [16] 53 _).trans rfl
set_option maxRecDepth 100000 in
set_option maxHeartbeats 2000000 in
theorem h_X5_isSo_16 (v1 : Int32) (v2 : Int32) (v3 : Int32) (v4 : Int32) (σ : ts_S) : H_X5_isSo_16 v1 v2 v3 v4 σ = (ts_ck v1 4 <| if (σ 6 9 (v1.toNatClampNeg)) ≤ v4 then (ts_bv (F_X5_copyRow [.inr (.inr (.inl (6, 3))), .inr (.inr (.inl (6, 1)))] σ) fun σ1 => if v3 = nI 0 ∨ v3 = nI 1 then some (some (.inl v3), σ1) else none) else if v3 = nI 0 then (ts_bv (F_X5_copyRow [.inr (.inr (.inl (6, 3))), .inr (.inr (.inl (6, 1)))] σ) fun σ2 => if v3 = nI 0 ∨ v3 = nI 1 then some (some (.inl v3), σ2) else none) else ts_ck (((nI 40) * v1) + v4) 160 <| ts_ni (σ 6 10 ((((nI 40) * v1) + v4).toNatClampNeg)) fun y3 => if y3 = (-1) then (ts_bv (F_X5_day [.inr (.inr (.inl (6, 0)))] σ) fun σ4 => H_X5_isSo_16 v1 v2 (nI 1) (v4 + (nI 1)) σ4) else ts_ck v2 111 <| if y3 = (σ 6 1 (v2.toNatClampNeg)) then (ts_bv (F_X5_day [.inr (.inr (.inl (6, 0)))] σ) fun σ5 => H_X5_isSo_16 v1 v2 (nI 1) (v4 + (nI 1)) σ5) else ts_bv (F_X5_day [.inr (.inr (.inl (6, 0)))] σ) fun σ6 => H_X5_isSo_16 v1 v2 (nI 0) (v4 + (nI 1)) σ6) := by
  exact (ts_unf E_X5_isSo tb_X5_isSo [16] 53 _).trans rfl
noncomputable def H_X5_fits_42 (v1 : Int32) (v2 : Int32) (v3 : Int32) (v4 : Int32) (v5 : Int32) (v6 : Int32) (v7 : Int32) (σ : ts_S) : Option ts_A := ts_R E_X5_fits tb_X5_fits (42, [some (.inr (.inr (.inl (6, 0)))), some (.inl v1), some (.inl v2), some (.inl v3), some (.inl v4), some (.inl v5), some (.inl v6), some (.inl v7)], [], σ)
set_option maxRecDepth 100000 in
set_option maxHeartbeats 2000000 in
theorem e_X5_fits (a1 : Int32) (a2 : Int32) (σ : ts_S) : F_X5_fits [.inr (.inr (.inl (6, 0))), .inl a1, .inl a2] σ = (ts_bi (F_X5_isPerson [.inr (.inr (.inl (6, 0))), .inl a2] σ) fun x2 σ1 => ts_bi (F_X5_lacks [.inr (.inr (.inl (6, 0))), .inl a1, .inl x2] σ1) fun x4 σ3 => if x4 = nI 0 then (ts_bi (F_X5_placeNow [.inr (.inr (.inl (6, 0)))] σ3) fun x6 σ5 => ts_ck x6 111 <| ts_ni (σ5 6 1 (x6.toNatClampNeg)) fun y7 => H_X5_fits_42 a1 a2 x4 x6 y7 (nI 0) (nI 0) σ5) else ts_bi (F_X5_finding [.inr (.inr (.inl (6, 0))), .inl x4] σ3) fun x9 σ8 => some (some (.inl x9), σ8)) := by
  exact (ts_unf E_X5_fits tb_X5_fits [42] 66 _).trans rfl
set_option maxRecDepth 100000 in
set_option maxHeartbeats 2000000 in
theorem h_X5_fits_42 (v1 : Int32) (v2 : Int32) (v3 : Int32) (v4 : Int32) (v5 : Int32) (v6 : Int32) (v7 : Int32) (σ : ts_S) : H_X5_fits_42 v1 v2 v3 v4 v5 v6 v7 σ = (if (nI 48) ≤ v7 then (ts_ck v4 111 <| ts_nw (ts_up σ 6 1 (v4.toNatClampNeg) v5) fun σ1 => some (some (.inl v6), σ1)) else ts_ck v4 111 <| ts_nw (ts_up σ 6 1 (v4.toNatClampNeg) (((v7 / (nI 8)) * (nI 10)) + (v7 - v7 / (nI 8) * (nI 8)))) fun σ2 => ts_bi (F_X5_personAt [.inl v2, .inl (nI 0)] σ2) fun x4 σ3 => ts_bi (F_X5_isSo [.inr (.inr (.inl (6, 0))), .inl v1, .inl x4] σ3) fun x6 σ5 => if x6 = nI 0 then (ts_ni (v6 + (nI 0)) fun y7 => H_X5_fits_42 v1 v2 v3 v4 v5 y7 (v7 + (nI 1)) σ5) else ts_ni (v6 + (nI 1)) fun y8 => H_X5_fits_42 v1 v2 v3 v4 v5 y8 (v7 + (nI 1)) σ5) := by
  exact (ts_unf E_X5_fits tb_X5_fits [42] 66 _).trans rfl
noncomputable def H_X5_kinds_43 (v1 : Int32) (v2 : Int32) (v3 : Int32) (v4 : Int32) (v5 : Int32) (v6 : Int32) (v7 : Int32) (σ : ts_S) : Option ts_A := ts_R E_X5_kinds tb_X5_kinds (43, [some (.inr (.inr (.inl (6, 0)))), some (.inl v1), some (.inl v2), some (.inl v3), some (.inl v4), some (.inl v5), some (.inl v6), some (.inl v7)], [], σ)
set_option maxRecDepth 100000 in
set_option maxHeartbeats 2000000 in
theorem e_X5_kinds (a1 : Int32) (a2 : Int32) (σ : ts_S) : F_X5_kinds [.inr (.inr (.inl (6, 0))), .inl a1, .inl a2] σ = (ts_bi (F_X5_isSill [.inr (.inr (.inl (6, 0))), .inl a2] σ) fun x2 σ1 => ts_bi (F_X5_lacks [.inr (.inr (.inl (6, 0))), .inl a1, .inl x2] σ1) fun x4 σ3 => if x4 = nI 0 then (ts_bi (F_X5_sillAt [.inl a2, .inl (nI 0)] σ3) fun x6 σ5 => ts_ck x6 111 <| ts_ni (σ5 6 1 (x6.toNatClampNeg)) fun y7 => H_X5_kinds_43 a1 a2 x4 x6 y7 (nI 0) (nI 0) σ5) else ts_bi (F_X5_finding [.inr (.inr (.inl (6, 0))), .inl x4] σ3) fun x9 σ8 => some (some (.inl x9), σ8)) := by
  exact (ts_unf E_X5_kinds tb_X5_kinds [43] 61 _).trans rfl
set_option maxRecDepth 100000 in
set_option maxHeartbeats 2000000 in
theorem h_X5_kinds_43 (v1 : Int32) (v2 : Int32) (v3 : Int32) (v4 : Int32) (v5 : Int32) (v6 : Int32) (v7 : Int32) (σ : ts_S) : H_X5_kinds_43 v1 v2 v3 v4 v5 v6 v7 σ = (if (nI 6) < v7 then (ts_ck v4 111 <| ts_nw (ts_up σ 6 1 (v4.toNatClampNeg) v5) fun σ1 => some (some (.inl v6), σ1)) else ts_ck v4 111 <| ts_nw (ts_up σ 6 1 (v4.toNatClampNeg) v7) fun σ2 => ts_bi (F_X5_sillAt [.inl v2, .inl (nI 3)] σ2) fun x4 σ3 => ts_bi (F_X5_isSo [.inr (.inr (.inl (6, 0))), .inl v1, .inl x4] σ3) fun x6 σ5 => if x6 = nI 0 then (ts_ni (v6 ||| (nI 0)) fun y7 => H_X5_kinds_43 v1 v2 v3 v4 v5 y7 (v7 + (nI 1)) σ5) else ts_ni (v6 ||| ((nI 1) <<< (v7 &&& nI 31))) fun y8 => H_X5_kinds_43 v1 v2 v3 v4 v5 y8 (v7 + (nI 1)) σ5) := by
  exact (ts_unf E_X5_kinds tb_X5_kinds [43] 61 _).trans rfl
set_option maxRecDepth 100000 in
set_option maxHeartbeats 2000000 in
theorem e_X5_drawn (σ : ts_S) : F_X5_drawn [.inr (.inr (.inl (6, 0)))] σ = (ts_ck (nI 2) 111 <| ts_ck (nI 2) 111 <| ts_nw (ts_up σ 6 1 2 (((σ 6 1 2) * (nI 1103515245)) + (nI 12345))) fun σ1 => ts_ck (nI 2) 111 <| some (some (.inl ((Int32.toUInt32 (σ1 6 1 2) >>> (Int32.toUInt32 (nI 8) &&& Int32.toUInt32 31)).toInt32)), σ1)) := by
  exact (ts_unf E_X5_drawn tb_X5_drawn [] 22 _).trans rfl
noncomputable def H_X5_stroll_39 (v1 : Int32) (v2 : Int32) (σ : ts_S) : Option ts_A := ts_R E_X5_stroll tb_X5_stroll (39, [some (.inr (.inr (.inl (6, 0)))), some (.inl v1), some (.inl v2), none, none], [], σ)
set_option maxRecDepth 100000 in
set_option maxHeartbeats 2000000 in
theorem e_X5_stroll (a1 : Int32) (σ : ts_S) : F_X5_stroll [.inr (.inr (.inl (6, 0))), .inl a1] σ = (ts_bi (F_X5_within [.inl a1, .inl (nI 1), .inl (nI 20)] σ) fun x2 σ1 => if x2 = nI 0 then (ts_bi (F_X5_finding [.inr (.inr (.inl (6, 0))), .inl (Int32.ofNat 4293967295)] σ1) fun x4 σ3 => some (some (.inl x4), σ3)) else ts_ck (nI 0) 111 <| if ((σ1 6 1 0) + a1) ≤ (nI 99999) then (H_X5_stroll_39 a1 (nI 0) σ1) else ts_bi (F_X5_finding [.inr (.inr (.inl (6, 0))), .inl (Int32.ofNat 4293967291)] σ1) fun x6 σ5 => some (some (.inl x6), σ5)) := by
  exact (ts_unf E_X5_stroll tb_X5_stroll [39] 58 _).trans rfl
set_option maxRecDepth 100000 in
set_option maxHeartbeats 2000000 in
theorem h_X5_stroll_39 (v1 : Int32) (v2 : Int32) (σ : ts_S) : H_X5_stroll_39 v1 v2 σ = (if v1 ≤ v2 then (ts_ck (nI 4) 111 <| some (some (.inl (σ 6 1 4)), σ)) else ts_bi (F_X5_drawn [.inr (.inr (.inl (6, 0)))] σ) fun x2 σ1 => ts_ni (x2 - x2 / (nI 6) * (nI 6)) fun y3 => ts_bi (F_X5_drawn [.inr (.inr (.inl (6, 0)))] σ1) fun x5 σ4 => ts_ni (x5 - x5 / (nI 8) * (nI 8)) fun y6 => ts_bi (F_X5_placeNow [.inr (.inr (.inl (6, 0)))] σ4) fun x8 σ7 => ts_ck x8 111 <| ts_nw (ts_up σ7 6 1 (x8.toNatClampNeg) (((nI 10) * y3) + y6)) fun σ9 => ts_bv (F_X5_day [.inr (.inr (.inl (6, 0)))] σ9) fun σ10 => H_X5_stroll_39 v1 (v2 + (nI 1)) σ10) := by
  exact (ts_unf E_X5_stroll tb_X5_stroll [39] 58 _).trans rfl
noncomputable def H_X5_odds_54 (v1 : Int32) (v2 : Int32) (v3 : Int32) (v4 : Int32) (v5 : Int32) (v6 : Int32) (σ : ts_S) : Option ts_A := ts_R E_X5_odds tb_X5_odds (54, [some (.inr (.inr (.inl (6, 0)))), some (.inl v1), some (.inl v2), some (.inl v3), some (.inl v4), some (.inl v5), some (.inl v6), none, none, none], [], σ)
noncomputable def H_X5_odds_83 (v1 : Int32) (v2 : Int32) (v3 : Int32) (v4 : Int32) (v5 : Int32) (v6 : Int32) (v7 : Int64) (v9 : Int32) (σ : ts_S) : Option ts_A := ts_R E_X5_odds tb_X5_odds (83, [some (.inr (.inr (.inl (6, 0)))), some (.inl v1), some (.inl v2), some (.inl v3), some (.inl v4), some (.inl v5), some (.inl v6), some (.inr (.inl v7)), none, some (.inl v9)], [], σ)
set_option maxRecDepth 100000 in
set_option maxHeartbeats 2000000 in
theorem e_X5_odds (a1 : Int32) (a2 : Int32) (a3 : Int32) (σ : ts_S) : F_X5_odds [.inr (.inr (.inl (6, 0))), .inl a1, .inl a2, .inl a3] σ = (ts_bi (F_X5_isPerson [.inr (.inr (.inl (6, 0))), .inl a1] σ) fun x2 σ1 => if x2 = nI 0 then (ts_bi (F_X5_finding [.inr (.inr (.inl (6, 0))), .inl (Int32.ofNat 4293967295)] σ1) fun x4 σ3 => some (some (.inr (.inl (Int32.toInt64 x4))), σ3)) else ts_bi (F_X5_within [.inl a2, .inl (nI 0), .inl (nI 17)] σ1) fun x6 σ5 => if x6 = nI 0 then (ts_bi (F_X5_finding [.inr (.inr (.inl (6, 0))), .inl (Int32.ofNat 4293967295)] σ5) fun x8 σ7 => some (some (.inr (.inl (Int32.toInt64 x8))), σ7)) else ts_bi (F_X5_within [.inl a3, .inl (nI 0), .inl (nI 1)] σ5) fun x10 σ9 => if x10 = nI 0 then (ts_bi (F_X5_finding [.inr (.inr (.inl (6, 0))), .inl (Int32.ofNat 4293967295)] σ9) fun x12 σ11 => some (some (.inr (.inl (Int32.toInt64 x12))), σ11)) else ts_bi (F_X5_personIs [.inr (.inr (.inl (6, 0))), .inl a1, .inl (nI 0)] σ9) fun x14 σ13 => ts_bi (F_X5_bits [.inl x14] σ13) fun x16 σ15 => H_X5_odds_54 a1 a2 a3 x16 (nI 12) x16 σ15) := by
  exact (ts_unf E_X5_odds tb_X5_odds [54, 83] 65 _).trans rfl
set_option maxRecDepth 100000 in
set_option maxHeartbeats 2000000 in
theorem h_X5_odds_54 (v1 : Int32) (v2 : Int32) (v3 : Int32) (v4 : Int32) (v5 : Int32) (v6 : Int32) (σ : ts_S) : H_X5_odds_54 v1 v2 v3 v4 v5 v6 σ = (if v6 = nI 0 then (H_X5_odds_83 v1 v2 v3 v4 v5 v6 1 (nI 0) σ) else if v6 = nI 0 then none else ts_ni (v5 - v5 / v6 * v6) fun y1 => H_X5_odds_54 v1 v2 v3 v4 v6 y1 σ) := by
  exact (ts_unf E_X5_odds tb_X5_odds [54, 83] 65 _).trans rfl
set_option maxRecDepth 100000 in
set_option maxHeartbeats 2000000 in
theorem h_X5_odds_83 (v1 : Int32) (v2 : Int32) (v3 : Int32) (v4 : Int32) (v5 : Int32) (v6 : Int32) (v7 : Int64) (v9 : Int32) (σ : ts_S) : H_X5_odds_83 v1 v2 v3 v4 v5 v6 v7 v9 σ = (if v2 ≤ v9 then (some (some (.inr (.inl v7)), σ)) else if v3 = nI 0 then (if v5 = nI 0 then none else ts_nj (v7 * (Int32.toInt64 (v4 / v5))) fun y1 => H_X5_odds_83 v1 v2 v3 v4 v5 v6 y1 (v9 + (nI 1)) σ) else if v5 = nI 0 then none else ts_nj (v7 * (Int32.toInt64 ((nI 12) / v5))) fun y2 => H_X5_odds_83 v1 v2 v3 v4 v5 v6 y2 (v9 + (nI 1)) σ) := by
  exact (ts_unf E_X5_odds tb_X5_odds [54, 83] 65 _).trans rfl
set_option maxRecDepth 100000 in
set_option maxHeartbeats 2000000 in
theorem e_X5_seed (a1 : Int32) (σ : ts_S) : F_X5_seed [.inr (.inr (.inl (6, 0))), .inl a1] σ = (ts_bi (F_X5_become [.inr (.inr (.inl (6, 0))), .inl (nI 2), .inl a1] σ) fun x2 σ1 => some (some (.inl x2), σ1)) := by
  exact (ts_unf E_X5_seed tb_X5_seed [] 8 _).trans rfl
noncomputable def H_X5_feed_38 (v1 : Int32) (v2 : Int32) (v3 : Int32) (σ : ts_S) : Option ts_A := ts_R E_X5_feed tb_X5_feed (38, [some (.inr (.inr (.inl (6, 0)))), some (.inl v1), some (.inl v2), some (.inl v3)], [], σ)
set_option maxRecDepth 100000 in
set_option maxHeartbeats 2000000 in
theorem e_X5_feed (a1 : Int32) (a2 : Int32) (σ : ts_S) : F_X5_feed [.inr (.inr (.inl (6, 0))), .inl a1, .inl a2] σ = (ts_bi (F_X5_within [.inl a2, .inl (nI 1), .inl (nI 4)] σ) fun x2 σ1 => if x2 = nI 0 then (ts_bi (F_X5_finding [.inr (.inr (.inl (6, 0))), .inl (Int32.ofNat 4293967295)] σ1) fun x4 σ3 => some (some (.inl x4), σ3)) else if ((σ1 6 0 6) + a2) ≤ (nI 120) then (ts_ni (a2 - (nI 1)) fun y5 => H_X5_feed_38 a1 a2 y5 σ1) else ts_bi (F_X5_finding [.inr (.inr (.inl (6, 0))), .inl (Int32.ofNat 4293967294)] σ1) fun x7 σ6 => some (some (.inl x7), σ6)) := by
  exact (ts_unf E_X5_feed tb_X5_feed [38] 51 _).trans rfl
set_option maxRecDepth 100000 in
set_option maxHeartbeats 2000000 in
theorem h_X5_feed_38 (v1 : Int32) (v2 : Int32) (v3 : Int32) (σ : ts_S) : H_X5_feed_38 v1 v2 v3 σ = (if v3 < nI 0 then (some (some (.inl (σ 6 0 6)), σ)) else ts_ck (σ 6 0 6) 120 <| ts_nw (ts_up σ 6 5 ((σ 6 0 6).toNatClampNeg) ((v1 >>> (((nI 8) * v3) &&& nI 31)) &&& (nI 255))) fun σ1 => ts_nw (ts_up σ1 6 0 6 ((σ1 6 0 6) + (nI 1))) fun σ2 => H_X5_feed_38 v1 v2 (v3 + (-1)) σ2) := by
  exact (ts_unf E_X5_feed tb_X5_feed [38] 51 _).trans rfl
set_option maxRecDepth 100000 in
set_option maxHeartbeats 2000000 in
theorem e_X5_wipe (σ : ts_S) : F_X5_wipe [.inr (.inr (.inl (6, 0)))] σ = (ts_ni (σ 6 0 6) fun y1 => ts_nw (ts_up σ 6 0 6 (nI 0)) fun σ2 => some (some (.inl y1), σ2)) := by
  exact (ts_unf E_X5_wipe tb_X5_wipe [] 11 _).trans rfl
set_option maxRecDepth 100000 in
set_option maxHeartbeats 2000000 in
theorem e_X5_byteAt (a1 : Int32) (σ : ts_S) : F_X5_byteAt [.inr (.inr (.inl (6, 0))), .inl a1] σ = (if (σ 6 0 6) ≤ a1 then (some (some (.inl (-1)), σ)) else ts_ck a1 120 <| some (some (.inl (σ 6 5 (a1.toNatClampNeg))), σ)) := by
  exact (ts_unf E_X5_byteAt tb_X5_byteAt [] 14 _).trans rfl
noncomputable def H_X5_token_8 (σ : ts_S) : Option ts_A := ts_R E_X5_token tb_X5_token (8, [some (.inr (.inr (.inl (6, 0)))), none], [], σ)
noncomputable def H_X5_token_131 (v1 : Int32) (σ : ts_S) : Option ts_A := ts_R E_X5_token tb_X5_token (131, [some (.inr (.inr (.inl (6, 0)))), some (.inl v1)], [], σ)
noncomputable def H_X5_token_84 (v1 : Int32) (σ : ts_S) : Option ts_A := ts_R E_X5_token tb_X5_token (84, [some (.inr (.inr (.inl (6, 0)))), some (.inl v1)], [], σ)
set_option maxRecDepth 100000 in
set_option maxHeartbeats 2000000 in
theorem e_X5_token (σ : ts_S) : F_X5_token [.inr (.inr (.inl (6, 0)))] σ = (ts_nw (ts_up σ 6 0 7 (σ 6 0 8)) fun σ1 => H_X5_token_8 σ1) := by
  exact (ts_unf E_X5_token tb_X5_token [8, 84, 131] 109 _).trans rfl
set_option maxRecDepth 100000 in
set_option maxHeartbeats 2000000 in
theorem h_X5_token_8 (σ : ts_S) : H_X5_token_8 σ = (ts_bi (F_X5_byteAt [.inr (.inr (.inl (6, 0))), .inl (σ 6 0 7)] σ) fun x2 σ1 => if x2 = (nI 32) then (ts_nw (ts_up σ1 6 0 7 ((σ1 6 0 7) + (nI 1))) fun σ3 => H_X5_token_8 σ3) else ts_bi (F_X5_byteAt [.inr (.inr (.inl (6, 0))), .inl (σ1 6 0 7)] σ1) fun x5 σ4 => ts_nw (ts_up σ4 6 0 8 (σ4 6 0 7)) fun σ6 => ts_nw (ts_up σ6 6 0 10 (nI 0)) fun σ7 => if nI 0 ≤ x5 then (ts_bi (F_X5_within [.inl x5, .inl (nI 97), .inl (nI 122)] σ7) fun x9 σ8 => if x9 = nI 0 then (ts_bi (F_X5_within [.inl x5, .inl (nI 48), .inl (nI 57)] σ8) fun x11 σ10 => if x11 = nI 0 then (ts_nw (ts_up σ10 6 0 9 (nI 3)) fun σ12 => ts_nw (ts_up σ12 6 0 8 ((σ12 6 0 8) + (nI 1))) fun σ13 => some (none, σ13)) else ts_nw (ts_up σ10 6 0 9 (nI 2)) fun σ14 => H_X5_token_131 x5 σ14) else ts_nw (ts_up σ8 6 0 9 (nI 1)) fun σ15 => H_X5_token_84 x5 σ15) else ts_nw (ts_up σ7 6 0 9 (nI 0)) fun σ16 => some (none, σ16)) := by
  exact (ts_unf E_X5_token tb_X5_token [8, 84, 131] 109 _).trans rfl
set_option maxRecDepth 100000 in
set_option maxHeartbeats 2000000 in
theorem h_X5_token_131 (v1 : Int32) (σ : ts_S) : H_X5_token_131 v1 σ = (ts_bi (F_X5_byteAt [.inr (.inr (.inl (6, 0))), .inl (σ 6 0 8)] σ) fun x2 σ1 => ts_bi (F_X5_within [.inl x2, .inl (nI 48), .inl (nI 57)] σ1) fun x4 σ3 => if x4 = nI 0 then (some (none, σ3)) else ts_bi (F_X5_byteAt [.inr (.inr (.inl (6, 0))), .inl (σ3 6 0 8)] σ3) fun x6 σ5 => ts_bi (F_J9_min_7cf53 [.inl (nI 10000), .inl ((((nI 10) * (σ3 6 0 10)) + x6) - (nI 48))] σ5) fun x8 σ7 => ts_nw (ts_up σ7 6 0 10 x8) fun σ9 => ts_nw (ts_up σ9 6 0 8 ((σ9 6 0 8) + (nI 1))) fun σ10 => H_X5_token_131 v1 σ10) := by
  exact (ts_unf E_X5_token tb_X5_token [8, 84, 131] 109 _).trans rfl
set_option maxRecDepth 100000 in
set_option maxHeartbeats 2000000 in
theorem h_X5_token_84 (v1 : Int32) (σ : ts_S) : H_X5_token_84 v1 σ = (ts_bi (F_X5_byteAt [.inr (.inr (.inl (6, 0))), .inl (σ 6 0 8)] σ) fun x2 σ1 => ts_bi (F_X5_within [.inl x2, .inl (nI 97), .inl (nI 122)] σ1) fun x4 σ3 => if x4 = nI 0 then (some (none, σ3)) else ts_nw (ts_up σ3 6 0 8 ((σ3 6 0 8) + (nI 1))) fun σ5 => H_X5_token_84 v1 σ5) := by
  exact (ts_unf E_X5_token tb_X5_token [8, 84, 131] 109 _).trans rfl
noncomputable def H_X5_isWord_32 (v1 : Nat) (v2 : Int32) (v3 : Int32) (σ : ts_S) : Option ts_A := ts_R E_X5_isWord tb_X5_isWord (32, [some (.inr (.inr (.inl (6, 0)))), some (.inr (.inr (.inr v1))), some (.inl v2), some (.inl v3)], [], σ)
set_option maxRecDepth 100000 in
set_option maxHeartbeats 2000000 in
theorem e_X5_isWord {a1 : Nat} (ha : a1 < 13) (σ : ts_S) : F_X5_isWord [.inr (.inr (.inl (6, 0))), .inr (.inr (.inr a1))] σ = (if (σ 6 0 9) = (nI 1) then (ts_bi (F_slen [.inr (.inr (.inr a1))] σ) fun x2 σ1 => if ((σ 6 0 8) - (σ 6 0 7)) = x2 then (H_X5_isWord_32 a1 (nI 1) (nI 0) σ1) else H_X5_isWord_32 a1 (nI 0) (nI 0) σ1) else H_X5_isWord_32 a1 (nI 0) (nI 0) σ) := by
  match a1, ha with
  | 0, _ => exact (ts_unf E_X5_isWord tb_X5_isWord [32] 46 _).trans rfl
  | 1, _ => exact (ts_unf E_X5_isWord tb_X5_isWord [32] 46 _).trans rfl
  | 2, _ => exact (ts_unf E_X5_isWord tb_X5_isWord [32] 46 _).trans rfl
  | 3, _ => exact (ts_unf E_X5_isWord tb_X5_isWord [32] 46 _).trans rfl
  | 4, _ => exact (ts_unf E_X5_isWord tb_X5_isWord [32] 46 _).trans rfl
  | 5, _ => exact (ts_unf E_X5_isWord tb_X5_isWord [32] 46 _).trans rfl
  | 6, _ => exact (ts_unf E_X5_isWord tb_X5_isWord [32] 46 _).trans rfl
  | 7, _ => exact (ts_unf E_X5_isWord tb_X5_isWord [32] 46 _).trans rfl
  | 8, _ => exact (ts_unf E_X5_isWord tb_X5_isWord [32] 46 _).trans rfl
  | 9, _ => exact (ts_unf E_X5_isWord tb_X5_isWord [32] 46 _).trans rfl
  | 10, _ => exact (ts_unf E_X5_isWord tb_X5_isWord [32] 46 _).trans rfl
  | 11, _ => exact (ts_unf E_X5_isWord tb_X5_isWord [32] 46 _).trans rfl
  | 12, _ => exact (ts_unf E_X5_isWord tb_X5_isWord [32] 46 _).trans rfl
set_option maxRecDepth 100000 in
set_option maxHeartbeats 2000000 in
theorem h_X5_isWord_32 {v1 : Nat} (ha : v1 < 13) (v2 : Int32) (v3 : Int32) (σ : ts_S) : H_X5_isWord_32 v1 v2 v3 σ = (ts_bi (F_slen [.inr (.inr (.inr v1))] σ) fun x2 σ1 => if x2 ≤ v3 then (if v2 = nI 0 ∨ v2 = nI 1 then some (some (.inl v2), σ1) else none) else if v2 = nI 0 then (if v2 = nI 0 ∨ v2 = nI 1 then some (some (.inl v2), σ1) else none) else ts_ck ((σ1 6 0 7) + v3) 120 <| ts_bi (F_schar [.inr (.inr (.inr v1)), .inl v3] σ1) fun x4 σ3 => if (σ1 6 5 (((σ1 6 0 7) + v3).toNatClampNeg)) = x4 then (H_X5_isWord_32 v1 (nI 1) (v3 + (nI 1)) σ3) else H_X5_isWord_32 v1 (nI 0) (v3 + (nI 1)) σ3) := by
  match v1, ha with
  | 0, _ => exact (ts_unf E_X5_isWord tb_X5_isWord [32] 46 _).trans rfl
  | 1, _ => exact (ts_unf E_X5_isWord tb_X5_isWord [32] 46 _).trans rfl
  | 2, _ => exact (ts_unf E_X5_isWord tb_X5_isWord [32] 46 _).trans rfl
  | 3, _ => exact (ts_unf E_X5_isWord tb_X5_isWord [32] 46 _).trans rfl
  | 4, _ => exact (ts_unf E_X5_isWord tb_X5_isWord [32] 46 _).trans rfl
  | 5, _ => exact (ts_unf E_X5_isWord tb_X5_isWord [32] 46 _).trans rfl
  | 6, _ => exact (ts_unf E_X5_isWord tb_X5_isWord [32] 46 _).trans rfl
  | 7, _ => exact (ts_unf E_X5_isWord tb_X5_isWord [32] 46 _).trans rfl
  | 8, _ => exact (ts_unf E_X5_isWord tb_X5_isWord [32] 46 _).trans rfl
  | 9, _ => exact (ts_unf E_X5_isWord tb_X5_isWord [32] 46 _).trans rfl
  | 10, _ => exact (ts_unf E_X5_isWord tb_X5_isWord [32] 46 _).trans rfl
  | 11, _ => exact (ts_unf E_X5_isWord tb_X5_isWord [32] 46 _).trans rfl
  | 12, _ => exact (ts_unf E_X5_isWord tb_X5_isWord [32] 46 _).trans rfl
set_option maxRecDepth 100000 in
set_option maxHeartbeats 2000000 in
theorem e_X5_must (a1 : Int32) (σ : ts_S) : F_X5_must [.inr (.inr (.inl (6, 0))), .inl a1] σ = (if (σ 6 0 11) = nI 0 then (if a1 = nI 0 then (ts_nw (ts_up σ 6 0 11 (nI 1)) fun σ1 => if (σ1 6 0 11) = nI 0 then (ts_bv (F_X5_token [.inr (.inr (.inl (6, 0)))] σ1) fun σ2 => some (none, σ2)) else some (none, σ1)) else ts_nw (ts_up σ 6 0 11 (nI 0)) fun σ3 => if (σ3 6 0 11) = nI 0 then (ts_bv (F_X5_token [.inr (.inr (.inl (6, 0)))] σ3) fun σ4 => some (none, σ4)) else some (none, σ3)) else ts_nw (ts_up σ 6 0 11 (nI 1)) fun σ5 => if (σ5 6 0 11) = nI 0 then (ts_bv (F_X5_token [.inr (.inr (.inl (6, 0)))] σ5) fun σ6 => some (none, σ6)) else some (none, σ5)) := by
  exact (ts_unf E_X5_must tb_X5_must [] 19 _).trans rfl
set_option maxRecDepth 100000 in
set_option maxHeartbeats 2000000 in
theorem e_X5_number (a1 : Int32) (a2 : Int32) (σ : ts_S) : F_X5_number [.inr (.inr (.inl (6, 0))), .inl a1, .inl a2] σ = (ts_ni (σ 6 0 10) fun y1 => if (σ 6 0 9) = (nI 2) then (ts_bi (F_X5_within [.inl y1, .inl a1, .inl a2] σ) fun x3 σ2 => if x3 = nI 0 then (ts_bv (F_X5_must [.inr (.inr (.inl (6, 0))), .inl (nI 0)] σ2) fun σ4 => some (some (.inl y1), σ4)) else ts_bv (F_X5_must [.inr (.inr (.inl (6, 0))), .inl (nI 1)] σ2) fun σ5 => some (some (.inl y1), σ5)) else ts_bv (F_X5_must [.inr (.inr (.inl (6, 0))), .inl (nI 0)] σ) fun σ6 => some (some (.inl y1), σ6)) := by
  exact (ts_unf E_X5_number tb_X5_number [] 22 _).trans rfl
set_option maxRecDepth 100000 in
set_option maxHeartbeats 2000000 in
theorem e_X5_takesWord (a1 : Nat) (σ : ts_S) : F_X5_takesWord [.inr (.inr (.inl (6, 0))), .inr (.inr (.inr a1))] σ = (if (σ 6 0 11) = nI 0 then (ts_bi (F_X5_isWord [.inr (.inr (.inl (6, 0))), .inr (.inr (.inr a1))] σ) fun x2 σ1 => if x2 = nI 0 then (if (nI 0) = nI 0 then (some (some (.inl (nI 0)), σ1)) else ts_bv (F_X5_must [.inr (.inr (.inl (6, 0))), .inl (nI 1)] σ1) fun σ3 => some (some (.inl (nI 0)), σ3)) else if (nI 1) = nI 0 then (some (some (.inl (nI 1)), σ1)) else ts_bv (F_X5_must [.inr (.inr (.inl (6, 0))), .inl (nI 1)] σ1) fun σ4 => some (some (.inl (nI 1)), σ4)) else if (nI 0) = nI 0 then (some (some (.inl (nI 0)), σ)) else ts_bv (F_X5_must [.inr (.inr (.inl (6, 0))), .inl (nI 1)] σ) fun σ5 => some (some (.inl (nI 0)), σ5)) := by
  exact (ts_unf E_X5_takesWord tb_X5_takesWord [] 21 _).trans rfl
noncomputable def H_X5_readSill_61 (v1 : Int32) (v2 : Int32) (v3 : Int32) (σ : ts_S) : Option ts_A := ts_R E_X5_readSill tb_X5_readSill (61, [some (.inr (.inr (.inl (6, 0)))), some (.inl v1), some (.inl v2), some (.inl v3)], [], σ)
set_option maxRecDepth 100000 in
set_option maxHeartbeats 2000000 in
theorem e_X5_readSill (a1 : Int32) (a2 : Int32) (σ : ts_S) : F_X5_readSill [.inr (.inr (.inl (6, 0))), .inl a1, .inl a2] σ = (if (nI 8) ≤ (σ 6 0 15) then (ts_bv (F_X5_must [.inr (.inr (.inl (6, 0))), .inl (nI 0)] σ) fun σ1 => ts_ck a2 960 <| ts_nw (ts_up σ1 6 7 (a2.toNatClampNeg) a1) fun σ2 => ts_ck (a2 + (nI 2)) 960 <| ts_nw (ts_up σ2 6 7 ((a2 + (nI 2)).toNatClampNeg) (nI 0)) fun σ3 => ts_bi (F_X5_takesWord [.inr (.inr (.inl (6, 0))), .inr (.inr (.inr 9))] σ3) fun x5 σ4 => if x5 = nI 0 then (ts_bi (F_X5_takesWord [.inr (.inr (.inl (6, 0))), .inr (.inr (.inr 10))] σ4) fun x7 σ6 => if x7 = nI 0 then (ts_ck (a2 + (nI 1)) 960 <| ts_nw (ts_up σ6 6 7 ((a2 + (nI 1)).toNatClampNeg) (nI 0)) fun σ8 => ts_nw (ts_up σ8 6 0 15 ((σ8 6 0 15) + (nI 1))) fun σ9 => some (none, σ9)) else ts_ck (a2 + (nI 1)) 960 <| ts_nw (ts_up σ6 6 7 ((a2 + (nI 1)).toNatClampNeg) (nI 1)) fun σ10 => ts_nw (ts_up σ10 6 0 15 ((σ10 6 0 15) + (nI 1))) fun σ11 => some (none, σ11)) else ts_bi (F_X5_number [.inr (.inr (.inl (6, 0))), .inl (nI 0), .inl (nI 11)] σ4) fun x13 σ12 => ts_ck (a2 + (nI 3)) 960 <| ts_nw (ts_up σ12 6 7 ((a2 + (nI 3)).toNatClampNeg) x13) fun σ14 => H_X5_readSill_61 a1 a2 (nI 1) σ14) else ts_bv (F_X5_must [.inr (.inr (.inl (6, 0))), .inl (nI 1)] σ) fun σ15 => ts_ck a2 960 <| ts_nw (ts_up σ15 6 7 (a2.toNatClampNeg) a1) fun σ16 => ts_ck (a2 + (nI 2)) 960 <| ts_nw (ts_up σ16 6 7 ((a2 + (nI 2)).toNatClampNeg) (nI 0)) fun σ17 => ts_bi (F_X5_takesWord [.inr (.inr (.inl (6, 0))), .inr (.inr (.inr 9))] σ17) fun x19 σ18 => if x19 = nI 0 then (ts_bi (F_X5_takesWord [.inr (.inr (.inl (6, 0))), .inr (.inr (.inr 10))] σ18) fun x21 σ20 => if x21 = nI 0 then (ts_ck (a2 + (nI 1)) 960 <| ts_nw (ts_up σ20 6 7 ((a2 + (nI 1)).toNatClampNeg) (nI 0)) fun σ22 => ts_nw (ts_up σ22 6 0 15 ((σ22 6 0 15) + (nI 1))) fun σ23 => some (none, σ23)) else ts_ck (a2 + (nI 1)) 960 <| ts_nw (ts_up σ20 6 7 ((a2 + (nI 1)).toNatClampNeg) (nI 1)) fun σ24 => ts_nw (ts_up σ24 6 0 15 ((σ24 6 0 15) + (nI 1))) fun σ25 => some (none, σ25)) else ts_bi (F_X5_number [.inr (.inr (.inl (6, 0))), .inl (nI 0), .inl (nI 11)] σ18) fun x27 σ26 => ts_ck (a2 + (nI 3)) 960 <| ts_nw (ts_up σ26 6 7 ((a2 + (nI 3)).toNatClampNeg) x27) fun σ28 => H_X5_readSill_61 a1 a2 (nI 1) σ28) := by
  exact (ts_unf E_X5_readSill tb_X5_readSill [61] 91 _).trans rfl
set_option maxRecDepth 100000 in
set_option maxHeartbeats 2000000 in
theorem h_X5_readSill_61 (v1 : Int32) (v2 : Int32) (v3 : Int32) (σ : ts_S) : H_X5_readSill_61 v1 v2 v3 σ = (if (σ 6 0 11) = nI 0 then (if (σ 6 0 9) = (nI 2) then (if (nI 5) ≤ v3 then (ts_ck (v2 + (nI 2)) 960 <| ts_nw (ts_up σ 6 7 ((v2 + (nI 2)).toNatClampNeg) v3) fun σ1 => ts_bi (F_X5_takesWord [.inr (.inr (.inl (6, 0))), .inr (.inr (.inr 10))] σ1) fun x3 σ2 => if x3 = nI 0 then (ts_ck (v2 + (nI 1)) 960 <| ts_nw (ts_up σ2 6 7 ((v2 + (nI 1)).toNatClampNeg) (nI 0)) fun σ4 => ts_nw (ts_up σ4 6 0 15 ((σ4 6 0 15) + (nI 1))) fun σ5 => some (none, σ5)) else ts_ck (v2 + (nI 1)) 960 <| ts_nw (ts_up σ2 6 7 ((v2 + (nI 1)).toNatClampNeg) (nI 1)) fun σ6 => ts_nw (ts_up σ6 6 0 15 ((σ6 6 0 15) + (nI 1))) fun σ7 => some (none, σ7)) else ts_bi (F_X5_number [.inr (.inr (.inl (6, 0))), .inl (nI 0), .inl (nI 11)] σ) fun x9 σ8 => ts_ck ((v2 + (nI 3)) + v3) 960 <| ts_nw (ts_up σ8 6 7 (((v2 + (nI 3)) + v3).toNatClampNeg) x9) fun σ10 => H_X5_readSill_61 v1 v2 (v3 + (nI 1)) σ10) else ts_ck (v2 + (nI 2)) 960 <| ts_nw (ts_up σ 6 7 ((v2 + (nI 2)).toNatClampNeg) v3) fun σ11 => ts_bi (F_X5_takesWord [.inr (.inr (.inl (6, 0))), .inr (.inr (.inr 10))] σ11) fun x13 σ12 => if x13 = nI 0 then (ts_ck (v2 + (nI 1)) 960 <| ts_nw (ts_up σ12 6 7 ((v2 + (nI 1)).toNatClampNeg) (nI 0)) fun σ14 => ts_nw (ts_up σ14 6 0 15 ((σ14 6 0 15) + (nI 1))) fun σ15 => some (none, σ15)) else ts_ck (v2 + (nI 1)) 960 <| ts_nw (ts_up σ12 6 7 ((v2 + (nI 1)).toNatClampNeg) (nI 1)) fun σ16 => ts_nw (ts_up σ16 6 0 15 ((σ16 6 0 15) + (nI 1))) fun σ17 => some (none, σ17)) else ts_ck (v2 + (nI 2)) 960 <| ts_nw (ts_up σ 6 7 ((v2 + (nI 2)).toNatClampNeg) v3) fun σ18 => ts_bi (F_X5_takesWord [.inr (.inr (.inl (6, 0))), .inr (.inr (.inr 10))] σ18) fun x20 σ19 => if x20 = nI 0 then (ts_ck (v2 + (nI 1)) 960 <| ts_nw (ts_up σ19 6 7 ((v2 + (nI 1)).toNatClampNeg) (nI 0)) fun σ21 => ts_nw (ts_up σ21 6 0 15 ((σ21 6 0 15) + (nI 1))) fun σ22 => some (none, σ22)) else ts_ck (v2 + (nI 1)) 960 <| ts_nw (ts_up σ19 6 7 ((v2 + (nI 1)).toNatClampNeg) (nI 1)) fun σ23 => ts_nw (ts_up σ23 6 0 15 ((σ23 6 0 15) + (nI 1))) fun σ24 => some (none, σ24)) := by
  exact (ts_unf E_X5_readSill tb_X5_readSill [61] 91 _).trans rfl
set_option maxRecDepth 100000 in
set_option maxHeartbeats 2000000 in
theorem e_X5_readPerson (a1 : Int32) (σ : ts_S) : F_X5_readPerson [.inr (.inr (.inl (6, 0))), .inl a1] σ = (if (nI 6) ≤ (σ 6 0 16) then (ts_bv (F_X5_must [.inr (.inr (.inl (6, 0))), .inl (nI 0)] σ) fun σ1 => ts_ck a1 960 <| ts_nw (ts_up σ1 6 7 (a1.toNatClampNeg) (nI 10)) fun σ2 => ts_bi (F_X5_takesWord [.inr (.inr (.inl (6, 0))), .inr (.inr (.inr 11))] σ2) fun x4 σ3 => if x4 = nI 0 then (ts_ck (a1 + (nI 1)) 960 <| ts_nw (ts_up σ3 6 7 ((a1 + (nI 1)).toNatClampNeg) (nI 0)) fun σ5 => ts_bi (F_X5_takesWord [.inr (.inr (.inl (6, 0))), .inr (.inr (.inr 12))] σ5) fun x7 σ6 => if x7 = nI 0 then (ts_ck (a1 + (nI 2)) 960 <| ts_nw (ts_up σ6 6 7 ((a1 + (nI 2)).toNatClampNeg) (-1)) fun σ8 => ts_nw (ts_up σ8 6 0 16 ((σ8 6 0 16) + (nI 1))) fun σ9 => some (none, σ9)) else ts_bi (F_X5_number [.inr (.inr (.inl (6, 0))), .inl (nI 0), .inl ((σ6 6 0 15) - (nI 1))] σ6) fun x11 σ10 => ts_ck (a1 + (nI 2)) 960 <| ts_nw (ts_up σ10 6 7 ((a1 + (nI 2)).toNatClampNeg) x11) fun σ12 => ts_nw (ts_up σ12 6 0 16 ((σ12 6 0 16) + (nI 1))) fun σ13 => some (none, σ13)) else ts_bi (F_X5_number [.inr (.inr (.inl (6, 0))), .inl (nI 0), .inl (nI 4095)] σ3) fun x15 σ14 => ts_ck (a1 + (nI 1)) 960 <| ts_nw (ts_up σ14 6 7 ((a1 + (nI 1)).toNatClampNeg) x15) fun σ16 => ts_bi (F_X5_takesWord [.inr (.inr (.inl (6, 0))), .inr (.inr (.inr 12))] σ16) fun x18 σ17 => if x18 = nI 0 then (ts_ck (a1 + (nI 2)) 960 <| ts_nw (ts_up σ17 6 7 ((a1 + (nI 2)).toNatClampNeg) (-1)) fun σ19 => ts_nw (ts_up σ19 6 0 16 ((σ19 6 0 16) + (nI 1))) fun σ20 => some (none, σ20)) else ts_bi (F_X5_number [.inr (.inr (.inl (6, 0))), .inl (nI 0), .inl ((σ17 6 0 15) - (nI 1))] σ17) fun x22 σ21 => ts_ck (a1 + (nI 2)) 960 <| ts_nw (ts_up σ21 6 7 ((a1 + (nI 2)).toNatClampNeg) x22) fun σ23 => ts_nw (ts_up σ23 6 0 16 ((σ23 6 0 16) + (nI 1))) fun σ24 => some (none, σ24)) else ts_bv (F_X5_must [.inr (.inr (.inl (6, 0))), .inl (nI 1)] σ) fun σ25 => ts_ck a1 960 <| ts_nw (ts_up σ25 6 7 (a1.toNatClampNeg) (nI 10)) fun σ26 => ts_bi (F_X5_takesWord [.inr (.inr (.inl (6, 0))), .inr (.inr (.inr 11))] σ26) fun x28 σ27 => if x28 = nI 0 then (ts_ck (a1 + (nI 1)) 960 <| ts_nw (ts_up σ27 6 7 ((a1 + (nI 1)).toNatClampNeg) (nI 0)) fun σ29 => ts_bi (F_X5_takesWord [.inr (.inr (.inl (6, 0))), .inr (.inr (.inr 12))] σ29) fun x31 σ30 => if x31 = nI 0 then (ts_ck (a1 + (nI 2)) 960 <| ts_nw (ts_up σ30 6 7 ((a1 + (nI 2)).toNatClampNeg) (-1)) fun σ32 => ts_nw (ts_up σ32 6 0 16 ((σ32 6 0 16) + (nI 1))) fun σ33 => some (none, σ33)) else ts_bi (F_X5_number [.inr (.inr (.inl (6, 0))), .inl (nI 0), .inl ((σ30 6 0 15) - (nI 1))] σ30) fun x35 σ34 => ts_ck (a1 + (nI 2)) 960 <| ts_nw (ts_up σ34 6 7 ((a1 + (nI 2)).toNatClampNeg) x35) fun σ36 => ts_nw (ts_up σ36 6 0 16 ((σ36 6 0 16) + (nI 1))) fun σ37 => some (none, σ37)) else ts_bi (F_X5_number [.inr (.inr (.inl (6, 0))), .inl (nI 0), .inl (nI 4095)] σ27) fun x39 σ38 => ts_ck (a1 + (nI 1)) 960 <| ts_nw (ts_up σ38 6 7 ((a1 + (nI 1)).toNatClampNeg) x39) fun σ40 => ts_bi (F_X5_takesWord [.inr (.inr (.inl (6, 0))), .inr (.inr (.inr 12))] σ40) fun x42 σ41 => if x42 = nI 0 then (ts_ck (a1 + (nI 2)) 960 <| ts_nw (ts_up σ41 6 7 ((a1 + (nI 2)).toNatClampNeg) (-1)) fun σ43 => ts_nw (ts_up σ43 6 0 16 ((σ43 6 0 16) + (nI 1))) fun σ44 => some (none, σ44)) else ts_bi (F_X5_number [.inr (.inr (.inl (6, 0))), .inl (nI 0), .inl ((σ41 6 0 15) - (nI 1))] σ41) fun x46 σ45 => ts_ck (a1 + (nI 2)) 960 <| ts_nw (ts_up σ45 6 7 ((a1 + (nI 2)).toNatClampNeg) x46) fun σ47 => ts_nw (ts_up σ47 6 0 16 ((σ47 6 0 16) + (nI 1))) fun σ48 => some (none, σ48)) := by
  exact (ts_unf E_X5_readPerson tb_X5_readPerson [] 59 _).trans rfl
noncomputable def H_X5_readItem_12 (v1 : Int32) (v2 : Int32) (v3 : Int32) (σ : ts_S) : Option ts_A := ts_R E_X5_readItem tb_X5_readItem (12, [some (.inr (.inr (.inl (6, 0)))), some (.inl v1), some (.inl v2), some (.inl v3)], [], σ)
set_option maxRecDepth 100000 in
set_option maxHeartbeats 2000000 in
theorem e_X5_readItem (σ : ts_S) : F_X5_readItem [.inr (.inr (.inl (6, 0)))] σ = (ts_ni ((nI 8) * (σ 6 0 14)) fun y1 => H_X5_readItem_12 y1 (-1) (nI 0) σ) := by
  exact (ts_unf E_X5_readItem tb_X5_readItem [12] 95 _).trans rfl
set_option maxRecDepth 100000 in
set_option maxHeartbeats 2000000 in
theorem h_X5_readItem_12 (v1 : Int32) (v2 : Int32) (v3 : Int32) (σ : ts_S) : H_X5_readItem_12 v1 v2 v3 σ = (if (nI 7) ≤ v3 then (if v2 < nI 0 then (ts_bi (F_X5_isWord [.inr (.inr (.inl (6, 0))), .inr (.inr (.inr 7))] σ) fun x2 σ1 => if x2 = nI 0 then (ts_bi (F_X5_takesWord [.inr (.inr (.inl (6, 0))), .inr (.inr (.inr 8))] σ1) fun x4 σ3 => if x4 = nI 0 then (ts_bv (F_X5_must [.inr (.inr (.inl (6, 0))), .inl (nI 0)] σ3) fun σ5 => ts_nw (ts_up σ5 6 0 14 ((σ5 6 0 14) + (nI 1))) fun σ6 => some (none, σ6)) else ts_ck v1 960 <| ts_nw (ts_up σ3 6 7 (v1.toNatClampNeg) (nI 11)) fun σ7 => ts_bi (F_X5_number [.inr (.inr (.inl (6, 0))), .inl (nI 0), .inl (nI 5)] σ7) fun x9 σ8 => ts_ck (v1 + (nI 1)) 960 <| ts_nw (ts_up σ8 6 7 ((v1 + (nI 1)).toNatClampNeg) x9) fun σ10 => ts_bi (F_X5_number [.inr (.inr (.inl (6, 0))), .inl (nI 0), .inl (nI 5)] σ10) fun x12 σ11 => ts_ck (v1 + (nI 2)) 960 <| ts_nw (ts_up σ11 6 7 ((v1 + (nI 2)).toNatClampNeg) x12) fun σ13 => ts_bi (F_X5_number [.inr (.inr (.inl (6, 0))), .inl (nI 0), .inl (nI 7)] σ13) fun x15 σ14 => ts_ck (v1 + (nI 3)) 960 <| ts_nw (ts_up σ14 6 7 ((v1 + (nI 3)).toNatClampNeg) x15) fun σ16 => ts_nw (ts_up σ16 6 0 14 ((σ16 6 0 14) + (nI 1))) fun σ17 => some (none, σ17)) else ts_bv (F_X5_readPerson [.inr (.inr (.inl (6, 0))), .inl v1] σ1) fun σ18 => ts_nw (ts_up σ18 6 0 14 ((σ18 6 0 14) + (nI 1))) fun σ19 => some (none, σ19)) else ts_bv (F_X5_readSill [.inr (.inr (.inl (6, 0))), .inl v2, .inl v1] σ) fun σ20 => ts_nw (ts_up σ20 6 0 14 ((σ20 6 0 14) + (nI 1))) fun σ21 => some (none, σ21)) else ts_ck v3 7 <| ts_bi (F_X5_isWord [.inr (.inr (.inl (6, 0))), .inr (.inr (.inr (v3.toNatClampNeg)))] σ) fun x23 σ22 => if x23 = nI 0 then (H_X5_readItem_12 v1 v2 (v3 + (nI 1)) σ22) else H_X5_readItem_12 v1 v3 (v3 + (nI 1)) σ22) := by
  exact (ts_unf E_X5_readItem tb_X5_readItem [12] 95 _).trans rfl
noncomputable def H_X5_isToldSo_125 (v1 : Int32) (v2 : Int32) (v3 : Int32) (v4 : Int32) (v5 : Int32) (σ : ts_S) : Option ts_A := ts_R E_X5_isToldSo tb_X5_isToldSo (125, [some (.inr (.inr (.inl (6, 0)))), some (.inl v1), some (.inl v2), some (.inl v3), some (.inl v4), some (.inl v5)], [], σ)
set_option maxRecDepth 100000 in
set_option maxHeartbeats 2000000 in
theorem e_X5_isToldSo (a1 : Int32) (σ : ts_S) : F_X5_isToldSo [.inr (.inr (.inl (6, 0))), .inl a1] σ = (ts_ck (a1 + (nI 1)) 960 <| ts_ni (σ 6 7 ((a1 + (nI 1)).toNatClampNeg)) fun y1 => ts_ck (a1 + (nI 2)) 960 <| ts_ni (σ 6 7 ((a1 + (nI 2)).toNatClampNeg)) fun y2 => ts_ck a1 960 <| if (σ 6 7 (a1.toNatClampNeg)) = nI 10 then (ts_bi (F_X5_onePersonMore [.inr (.inr (.inl (6, 0))), .inl y1] σ) fun x4 σ3 => ts_bi (F_X5_personAt [.inl x4, .inl (nI 1)] σ3) fun x6 σ5 => ts_ck x6 111 <| ts_nw (ts_up σ5 6 1 (x6.toNatClampNeg) y2) fun σ7 => some (none, σ7)) else if (σ 6 7 (a1.toNatClampNeg)) = nI 11 then (ts_ck (a1 + (nI 3)) 960 <| ts_ck ((nI 5) + y1) 111 <| ts_nw (ts_up σ 6 1 (((nI 5) + y1).toNatClampNeg) (((nI 10) * y2) + (σ 6 7 ((a1 + (nI 3)).toNatClampNeg)))) fun σ8 => some (none, σ8)) else ts_ck a1 960 <| ts_bi (F_X5_comes [.inr (.inr (.inl (6, 0))), .inl (σ 6 7 (a1.toNatClampNeg))] σ) fun x10 σ9 => ts_bi (F_X5_sillAt [.inl x10, .inl (nI 2)] σ9) fun x12 σ11 => ts_ck x12 111 <| ts_nw (ts_up σ11 6 1 (x12.toNatClampNeg) y1) fun σ13 => H_X5_isToldSo_125 a1 y1 y2 x10 (nI 0) σ13) := by
  exact (ts_unf E_X5_isToldSo tb_X5_isToldSo [125] 87 _).trans rfl
set_option maxRecDepth 100000 in
set_option maxHeartbeats 2000000 in
theorem h_X5_isToldSo_125 (v1 : Int32) (v2 : Int32) (v3 : Int32) (v4 : Int32) (v5 : Int32) (σ : ts_S) : H_X5_isToldSo_125 v1 v2 v3 v4 v5 σ = (if v3 ≤ v5 then (some (none, σ)) else ts_ck ((v1 + (nI 3)) + v5) 960 <| ts_bi (F_X5_lays [.inr (.inr (.inl (6, 0))), .inl v4, .inl (σ 6 7 (((v1 + (nI 3)) + v5).toNatClampNeg))] σ) fun x2 σ1 => H_X5_isToldSo_125 v1 v2 v3 v4 (v5 + (nI 1)) σ1) := by
  exact (ts_unf E_X5_isToldSo tb_X5_isToldSo [125] 87 _).trans rfl
noncomputable def H_X5_text_43 (σ : ts_S) : Option ts_A := ts_R E_X5_text tb_X5_text (43, [some (.inr (.inr (.inl (6, 0)))), none], [], σ)
noncomputable def H_X5_text_121 (v1 : Int32) (σ : ts_S) : Option ts_A := ts_R E_X5_text tb_X5_text (121, [some (.inr (.inr (.inl (6, 0)))), some (.inl v1)], [], σ)
set_option maxRecDepth 100000 in
set_option maxHeartbeats 2000000 in
theorem e_X5_text (σ : ts_S) : F_X5_text [.inr (.inr (.inl (6, 0)))] σ = (ts_nw (ts_up σ 6 0 8 (nI 0)) fun σ1 => ts_nw (ts_up σ1 6 0 11 (nI 0)) fun σ2 => ts_nw (ts_up σ2 6 0 14 (nI 0)) fun σ3 => ts_ck (nI 1) 111 <| ts_nw (ts_up σ3 6 0 15 (σ3 6 1 1)) fun σ4 => ts_ck (nI 3) 111 <| ts_nw (ts_up σ4 6 0 16 (σ4 6 1 3)) fun σ5 => ts_bv (F_X5_token [.inr (.inr (.inl (6, 0)))] σ5) fun σ6 => ts_bv (F_X5_readItem [.inr (.inr (.inl (6, 0)))] σ6) fun σ7 => H_X5_text_43 σ7) := by
  exact (ts_unf E_X5_text tb_X5_text [43, 121] 83 _).trans rfl
set_option maxRecDepth 100000 in
set_option maxHeartbeats 2000000 in
theorem h_X5_text_43 (σ : ts_S) : H_X5_text_43 σ = (if (σ 6 0 11) = nI 0 then (if (σ 6 0 9) = (nI 3) then (ts_ck (σ 6 0 7) 120 <| if (σ 6 5 ((σ 6 0 7).toNatClampNeg)) = (nI 59) then (ts_bv (F_X5_must [.inr (.inr (.inl (6, 0))), .inl (nI 1)] σ) fun σ1 => ts_bv (F_X5_readItem [.inr (.inr (.inl (6, 0)))] σ1) fun σ2 => H_X5_text_43 σ2) else if (σ 6 0 9) = nI 0 then (ts_bv (F_X5_must [.inr (.inr (.inl (6, 0))), .inl (nI 1)] σ) fun σ3 => ts_nw (ts_up σ3 6 0 6 (nI 0)) fun σ4 => if (σ4 6 0 11) = nI 0 then (H_X5_text_121 (nI 0) σ4) else some (some (.inl ((-1) - (σ4 6 0 7))), σ4)) else ts_bv (F_X5_must [.inr (.inr (.inl (6, 0))), .inl (nI 0)] σ) fun σ5 => ts_nw (ts_up σ5 6 0 6 (nI 0)) fun σ6 => if (σ6 6 0 11) = nI 0 then (H_X5_text_121 (nI 0) σ6) else some (some (.inl ((-1) - (σ6 6 0 7))), σ6)) else if (σ 6 0 9) = nI 0 then (ts_bv (F_X5_must [.inr (.inr (.inl (6, 0))), .inl (nI 1)] σ) fun σ7 => ts_nw (ts_up σ7 6 0 6 (nI 0)) fun σ8 => if (σ8 6 0 11) = nI 0 then (H_X5_text_121 (nI 0) σ8) else some (some (.inl ((-1) - (σ8 6 0 7))), σ8)) else ts_bv (F_X5_must [.inr (.inr (.inl (6, 0))), .inl (nI 0)] σ) fun σ9 => ts_nw (ts_up σ9 6 0 6 (nI 0)) fun σ10 => if (σ10 6 0 11) = nI 0 then (H_X5_text_121 (nI 0) σ10) else some (some (.inl ((-1) - (σ10 6 0 7))), σ10)) else if (σ 6 0 9) = nI 0 then (ts_bv (F_X5_must [.inr (.inr (.inl (6, 0))), .inl (nI 1)] σ) fun σ11 => ts_nw (ts_up σ11 6 0 6 (nI 0)) fun σ12 => if (σ12 6 0 11) = nI 0 then (H_X5_text_121 (nI 0) σ12) else some (some (.inl ((-1) - (σ12 6 0 7))), σ12)) else ts_bv (F_X5_must [.inr (.inr (.inl (6, 0))), .inl (nI 0)] σ) fun σ13 => ts_nw (ts_up σ13 6 0 6 (nI 0)) fun σ14 => if (σ14 6 0 11) = nI 0 then (H_X5_text_121 (nI 0) σ14) else some (some (.inl ((-1) - (σ14 6 0 7))), σ14)) := by
  exact (ts_unf E_X5_text tb_X5_text [43, 121] 83 _).trans rfl
set_option maxRecDepth 100000 in
set_option maxHeartbeats 2000000 in
theorem h_X5_text_121 (v1 : Int32) (σ : ts_S) : H_X5_text_121 v1 σ = (if (σ 6 0 14) ≤ v1 then (some (some (.inl (σ 6 0 14)), σ)) else ts_bv (F_X5_isToldSo [.inr (.inr (.inl (6, 0))), .inl ((nI 8) * v1)] σ) fun σ1 => H_X5_text_121 (v1 + (nI 1)) σ1) := by
  exact (ts_unf E_X5_text tb_X5_text [43, 121] 83 _).trans rfl
set_option maxRecDepth 100000 in
set_option maxHeartbeats 2000000 in
theorem e_X5_isSpot (a1 : Int32) (σ : ts_S) : F_X5_isSpot [.inl a1] σ = (ts_bi (F_X5_within [.inl a1, .inl (nI 0), .inl (nI 9)] σ) fun x2 σ1 => if x2 = nI 0 ∨ x2 = nI 1 then some (some (.inl x2), σ1) else none) := by
  exact (ts_unf E_X5_isSpot tb_X5_isSpot [] 8 _).trans rfl
set_option maxRecDepth 100000 in
set_option maxHeartbeats 2000000 in
theorem e_X5_hold (a1 : Int32) (a2 : Int32) (σ : ts_S) : F_X5_hold [.inr (.inr (.inl (6, 0))), .inl a1, .inl a2] σ = (ts_bi (F_X5_isSpot [.inl a1] σ) fun x2 σ1 => if x2 = nI 0 then (ts_bi (F_X5_finding [.inr (.inr (.inl (6, 0))), .inl (Int32.ofNat 4293967295)] σ1) fun x4 σ3 => some (some (.inl x4), σ3)) else if a2 = (-1) then (ts_ck ((nI 11) + a1) 111 <| ts_nw (ts_up σ1 6 1 (((nI 11) + a1).toNatClampNeg) a2) fun σ5 => some (some (.inl (nI 1)), σ5)) else ts_bi (F_X5_isSill [.inr (.inr (.inl (6, 0))), .inl a2] σ1) fun x7 σ6 => if x7 = nI 0 then (ts_bi (F_X5_finding [.inr (.inr (.inl (6, 0))), .inl (Int32.ofNat 4293967295)] σ6) fun x9 σ8 => some (some (.inl x9), σ8)) else ts_ck ((nI 11) + a1) 111 <| ts_nw (ts_up σ6 6 1 (((nI 11) + a1).toNatClampNeg) a2) fun σ10 => some (some (.inl (nI 1)), σ10)) := by
  exact (ts_unf E_X5_hold tb_X5_hold [] 26 _).trans rfl
set_option maxRecDepth 100000 in
set_option maxHeartbeats 2000000 in
theorem e_X5_above (a1 : Int32) (σ : ts_S) : F_X5_above [.inl a1] σ = (if a1 = nI 0 then (some (some (.inl (-1)), σ)) else if a1 = (nI 3) then (some (some (.inl (nI 2)), σ)) else if a1 = (nI 4) then (some (some (.inl (nI 3)), σ)) else if a1 = (nI 6) then (some (some (.inl (nI 1)), σ)) else some (some (.inl (nI 0)), σ)) := by
  exact (ts_unf E_X5_above tb_X5_above [] 24 _).trans rfl
noncomputable def H_X5_isUnder_2 (v0 : Int32) (v1 : Int32) (v2 : Int32) (σ : ts_S) : Option ts_A := ts_R E_X5_isUnder tb_X5_isUnder (2, [some (.inl v0), some (.inl v1), some (.inl v2)], [], σ)
set_option maxRecDepth 100000 in
set_option maxHeartbeats 2000000 in
theorem e_X5_isUnder (a1 : Int32) (a2 : Int32) (σ : ts_S) : F_X5_isUnder [.inl a1, .inl a2] σ = (H_X5_isUnder_2 a1 a2 a1 σ) := by
  exact (ts_unf E_X5_isUnder tb_X5_isUnder [2] 20 _).trans rfl
set_option maxRecDepth 100000 in
set_option maxHeartbeats 2000000 in
theorem h_X5_isUnder_2 (v0 : Int32) (v1 : Int32) (v2 : Int32) (σ : ts_S) : H_X5_isUnder_2 v0 v1 v2 σ = (if v2 < nI 0 then (if v2 < nI 0 then (some (some (.inl (nI 0)), σ)) else some (some (.inl (nI 1)), σ)) else if v2 = v1 then (if v2 < nI 0 then (some (some (.inl (nI 0)), σ)) else some (some (.inl (nI 1)), σ)) else ts_bi (F_X5_above [.inl v2] σ) fun x2 σ1 => H_X5_isUnder_2 v0 v1 x2 σ1) := by
  exact (ts_unf E_X5_isUnder tb_X5_isUnder [2] 20 _).trans rfl
set_option maxRecDepth 100000 in
set_option maxHeartbeats 2000000 in
theorem e_X5_as (a1 : Int32) (a2 : Int32) (σ : ts_S) : F_X5_as [.inr (.inr (.inl (6, 0))), .inl a1, .inl a2] σ = (ts_bi (F_X5_isSpot [.inl a1] σ) fun x2 σ1 => if x2 = nI 0 then (ts_bi (F_X5_finding [.inr (.inr (.inl (6, 0))), .inl (Int32.ofNat 4293967295)] σ1) fun x4 σ3 => some (some (.inl x4), σ3)) else ts_bi (F_X5_isKind [.inl a2] σ1) fun x6 σ5 => if x6 = nI 0 then (ts_bi (F_X5_finding [.inr (.inr (.inl (6, 0))), .inl (Int32.ofNat 4293967295)] σ5) fun x8 σ7 => some (some (.inl x8), σ7)) else ts_ck ((nI 11) + a1) 111 <| ts_ni (σ5 6 1 (((nI 11) + a1).toNatClampNeg)) fun y9 => if nI 0 ≤ y9 then (ts_bi (F_X5_sillIs [.inr (.inr (.inl (6, 0))), .inl y9, .inl (nI 0)] σ5) fun x11 σ10 => ts_bi (F_X5_isUnder [.inl x11, .inl a2] σ10) fun x13 σ12 => if x13 = nI 0 then (ts_bi (F_X5_finding [.inr (.inr (.inl (6, 0))), .inl (Int32.ofNat 4293967293)] σ12) fun x15 σ14 => some (some (.inl x15), σ14)) else some (some (.inl y9), σ12)) else ts_bi (F_X5_finding [.inr (.inr (.inl (6, 0))), .inl (Int32.ofNat 4293967290)] σ5) fun x17 σ16 => some (some (.inl x17), σ16)) := by
  exact (ts_unf E_X5_as tb_X5_as [] 39 _).trans rfl
set_option maxRecDepth 100000 in
set_option maxHeartbeats 2000000 in
theorem e_X5_cutTo (a1 : Int32) (a2 : Int32) (σ : ts_S) : F_X5_cutTo [.inl a1, .inl a2] σ = (if a2 = (nI 8) then (some (some (.inl ((Int32.toInt8 a1).toInt32)), σ)) else if a2 = (nI 16) then (some (some (.inl ((Int32.toInt16 a1).toInt32)), σ)) else some (some (.inl a1), σ)) := by
  exact (ts_unf E_X5_cutTo tb_X5_cutTo [] 17 _).trans rfl
noncomputable def H_X5_sheet_86 (v1 : Int32) (v2 : Int32) (v3 : Int32) (v4 : Int32) (σ : ts_S) : Option ts_A := ts_R E_X5_sheet tb_X5_sheet (86, [some (.inr (.inr (.inl (6, 0)))), some (.inl v1), some (.inl v2), some (.inl v3), some (.inl v4)], [], σ)
set_option maxRecDepth 100000 in
set_option maxHeartbeats 2000000 in
theorem e_X5_sheet (a1 : Int32) (a2 : Int32) (a3 : Int32) (σ : ts_S) : F_X5_sheet [.inr (.inr (.inl (6, 0))), .inl a1, .inl a2, .inl a3] σ = (ts_bi (F_X5_isSheet [.inl a1] σ) fun x2 σ1 => if x2 = nI 0 then (ts_bi (F_X5_finding [.inr (.inr (.inl (6, 0))), .inl (Int32.ofNat 4293967295)] σ1) fun x4 σ3 => some (some (.inl x4), σ3)) else if a2 = nI 0 then (if nI 0 ≤ a3 then (if a3 ≤ (nI 40) then (ts_ck a1 4 <| ts_nw (ts_up σ1 6 8 (a1.toNatClampNeg) a2) fun σ5 => if a2 = nI 0 then (ts_ck a1 4 <| ts_nw (ts_up σ5 6 9 (a1.toNatClampNeg) (nI 0)) fun σ6 => H_X5_sheet_86 a1 a2 a3 (nI 0) σ6) else ts_ck a1 4 <| ts_nw (ts_up σ5 6 9 (a1.toNatClampNeg) a3) fun σ7 => H_X5_sheet_86 a1 a2 a3 (nI 0) σ7) else ts_bi (F_X5_finding [.inr (.inr (.inl (6, 0))), .inl (Int32.ofNat 4293967295)] σ1) fun x9 σ8 => some (some (.inl x9), σ8)) else ts_bi (F_X5_finding [.inr (.inr (.inl (6, 0))), .inl (Int32.ofNat 4293967289)] σ1) fun x11 σ10 => some (some (.inl x11), σ10)) else if a2 = (nI 8) then (if nI 0 ≤ a3 then (if a3 ≤ (nI 40) then (ts_ck a1 4 <| ts_nw (ts_up σ1 6 8 (a1.toNatClampNeg) a2) fun σ12 => if a2 = nI 0 then (ts_ck a1 4 <| ts_nw (ts_up σ12 6 9 (a1.toNatClampNeg) (nI 0)) fun σ13 => H_X5_sheet_86 a1 a2 a3 (nI 0) σ13) else ts_ck a1 4 <| ts_nw (ts_up σ12 6 9 (a1.toNatClampNeg) a3) fun σ14 => H_X5_sheet_86 a1 a2 a3 (nI 0) σ14) else ts_bi (F_X5_finding [.inr (.inr (.inl (6, 0))), .inl (Int32.ofNat 4293967295)] σ1) fun x16 σ15 => some (some (.inl x16), σ15)) else ts_bi (F_X5_finding [.inr (.inr (.inl (6, 0))), .inl (Int32.ofNat 4293967289)] σ1) fun x18 σ17 => some (some (.inl x18), σ17)) else if a2 = (nI 16) then (if nI 0 ≤ a3 then (if a3 ≤ (nI 40) then (ts_ck a1 4 <| ts_nw (ts_up σ1 6 8 (a1.toNatClampNeg) a2) fun σ19 => if a2 = nI 0 then (ts_ck a1 4 <| ts_nw (ts_up σ19 6 9 (a1.toNatClampNeg) (nI 0)) fun σ20 => H_X5_sheet_86 a1 a2 a3 (nI 0) σ20) else ts_ck a1 4 <| ts_nw (ts_up σ19 6 9 (a1.toNatClampNeg) a3) fun σ21 => H_X5_sheet_86 a1 a2 a3 (nI 0) σ21) else ts_bi (F_X5_finding [.inr (.inr (.inl (6, 0))), .inl (Int32.ofNat 4293967295)] σ1) fun x23 σ22 => some (some (.inl x23), σ22)) else ts_bi (F_X5_finding [.inr (.inr (.inl (6, 0))), .inl (Int32.ofNat 4293967289)] σ1) fun x25 σ24 => some (some (.inl x25), σ24)) else if a2 = (nI 32) then (if nI 0 ≤ a3 then (if a3 ≤ (nI 40) then (ts_ck a1 4 <| ts_nw (ts_up σ1 6 8 (a1.toNatClampNeg) a2) fun σ26 => if a2 = nI 0 then (ts_ck a1 4 <| ts_nw (ts_up σ26 6 9 (a1.toNatClampNeg) (nI 0)) fun σ27 => H_X5_sheet_86 a1 a2 a3 (nI 0) σ27) else ts_ck a1 4 <| ts_nw (ts_up σ26 6 9 (a1.toNatClampNeg) a3) fun σ28 => H_X5_sheet_86 a1 a2 a3 (nI 0) σ28) else ts_bi (F_X5_finding [.inr (.inr (.inl (6, 0))), .inl (Int32.ofNat 4293967295)] σ1) fun x30 σ29 => some (some (.inl x30), σ29)) else ts_bi (F_X5_finding [.inr (.inr (.inl (6, 0))), .inl (Int32.ofNat 4293967289)] σ1) fun x32 σ31 => some (some (.inl x32), σ31)) else ts_bi (F_X5_finding [.inr (.inr (.inl (6, 0))), .inl (Int32.ofNat 4293967295)] σ1) fun x34 σ33 => some (some (.inl x34), σ33)) := by
  exact (ts_unf E_X5_sheet tb_X5_sheet [86] 69 _).trans rfl
set_option maxRecDepth 100000 in
set_option maxHeartbeats 2000000 in
theorem h_X5_sheet_86 (v1 : Int32) (v2 : Int32) (v3 : Int32) (v4 : Int32) (σ : ts_S) : H_X5_sheet_86 v1 v2 v3 v4 σ = (if (nI 40) ≤ v4 then (ts_ck v1 4 <| some (some (.inl (σ 6 9 (v1.toNatClampNeg))), σ)) else ts_ck (((nI 40) * v1) + v4) 160 <| ts_nw (ts_up σ 6 10 ((((nI 40) * v1) + v4).toNatClampNeg) (nI 0)) fun σ1 => H_X5_sheet_86 v1 v2 v3 (v4 + (nI 1)) σ1) := by
  exact (ts_unf E_X5_sheet tb_X5_sheet [86] 69 _).trans rfl
set_option maxRecDepth 100000 in
set_option maxHeartbeats 2000000 in
theorem e_X5_write (a1 : Int32) (a2 : Int32) (a3 : Int32) (σ : ts_S) : F_X5_write [.inr (.inr (.inl (6, 0))), .inl a1, .inl a2, .inl a3] σ = (ts_bi (F_X5_isSheet [.inl a1] σ) fun x2 σ1 => if x2 = nI 0 then (ts_bi (F_X5_finding [.inr (.inr (.inl (6, 0))), .inl (Int32.ofNat 4293967295)] σ1) fun x4 σ3 => some (some (.inl x4), σ3)) else ts_ck a1 4 <| if (σ1 6 8 (a1.toNatClampNeg)) = nI 0 then (ts_bi (F_X5_finding [.inr (.inr (.inl (6, 0))), .inl (Int32.ofNat 4293967290)] σ1) fun x6 σ5 => some (some (.inl x6), σ5)) else ts_ck a1 4 <| ts_bi (F_X5_within [.inl a2, .inl (nI 0), .inl ((σ1 6 9 (a1.toNatClampNeg)) - (nI 1))] σ1) fun x8 σ7 => if x8 = nI 0 then (ts_bi (F_X5_finding [.inr (.inr (.inl (6, 0))), .inl (Int32.ofNat 4293967295)] σ7) fun x10 σ9 => some (some (.inl x10), σ9)) else ts_ck a1 4 <| ts_bi (F_X5_cutTo [.inl a3, .inl (σ7 6 8 (a1.toNatClampNeg))] σ7) fun x12 σ11 => ts_ck (((nI 40) * a1) + a2) 160 <| ts_nw (ts_up σ11 6 10 ((((nI 40) * a1) + a2).toNatClampNeg) x12) fun σ13 => some (some (.inl (nI 1)), σ13)) := by
  exact (ts_unf E_X5_write tb_X5_write [] 49 _).trans rfl
noncomputable def H_X5_copy_128 (v1 : Int32) (v2 : Int32) (v3 : Int32) (v4 : Int32) (v5 : Int32) (v6 : Int32) (σ : ts_S) : Option ts_A := ts_R E_X5_copy tb_X5_copy (128, [some (.inr (.inr (.inl (6, 0)))), some (.inl v1), some (.inl v2), some (.inl v3), some (.inl v4), some (.inl v5), some (.inl v6)], [], σ)
noncomputable def H_X5_copy_165 (v1 : Int32) (v2 : Int32) (v3 : Int32) (v4 : Int32) (v5 : Int32) (v6 : Int32) (σ : ts_S) : Option ts_A := ts_R E_X5_copy tb_X5_copy (165, [some (.inr (.inr (.inl (6, 0)))), some (.inl v1), some (.inl v2), some (.inl v3), some (.inl v4), some (.inl v5), some (.inl v6)], [], σ)
set_option maxRecDepth 100000 in
set_option maxHeartbeats 2000000 in
theorem e_X5_copy (a1 : Int32) (a2 : Int32) (a3 : Int32) (a4 : Int32) (a5 : Int32) (σ : ts_S) : F_X5_copy [.inr (.inr (.inl (6, 0))), .inl a1, .inl a2, .inl a3, .inl a4, .inl a5] σ = (ts_bi (F_X5_isSheet [.inl a1] σ) fun x2 σ1 => if x2 = nI 0 then (ts_bi (F_X5_finding [.inr (.inr (.inl (6, 0))), .inl (Int32.ofNat 4293967295)] σ1) fun x4 σ3 => some (some (.inl x4), σ3)) else ts_bi (F_X5_isSheet [.inl a3] σ1) fun x6 σ5 => if x6 = nI 0 then (ts_bi (F_X5_finding [.inr (.inr (.inl (6, 0))), .inl (Int32.ofNat 4293967295)] σ5) fun x8 σ7 => some (some (.inl x8), σ7)) else ts_ck a1 4 <| if (σ5 6 8 (a1.toNatClampNeg)) = nI 0 then (ts_bi (F_X5_finding [.inr (.inr (.inl (6, 0))), .inl (Int32.ofNat 4293967290)] σ5) fun x10 σ9 => some (some (.inl x10), σ9)) else ts_ck a3 4 <| if (σ5 6 8 (a3.toNatClampNeg)) = nI 0 then (ts_bi (F_X5_finding [.inr (.inr (.inl (6, 0))), .inl (Int32.ofNat 4293967290)] σ5) fun x12 σ11 => some (some (.inl x12), σ11)) else ts_ck a1 4 <| ts_ck a3 4 <| if (σ5 6 8 (a1.toNatClampNeg)) = (σ5 6 8 (a3.toNatClampNeg)) then (if a2 < nI 0 then (ts_bi (F_X5_finding [.inr (.inr (.inl (6, 0))), .inl (Int32.ofNat 4293967295)] σ5) fun x14 σ13 => some (some (.inl x14), σ13)) else if a4 < nI 0 then (ts_bi (F_X5_finding [.inr (.inr (.inl (6, 0))), .inl (Int32.ofNat 4293967295)] σ5) fun x16 σ15 => some (some (.inl x16), σ15)) else if a5 < nI 0 then (ts_bi (F_X5_finding [.inr (.inr (.inl (6, 0))), .inl (Int32.ofNat 4293967295)] σ5) fun x18 σ17 => some (some (.inl x18), σ17)) else ts_ck a1 4 <| if nI 0 < (lg_cmp ((Int32.toInt64 a2) + (Int32.toInt64 a5)) (Int32.toInt64 (σ5 6 9 (a1.toNatClampNeg)))) then (ts_bi (F_X5_finding [.inr (.inr (.inl (6, 0))), .inl (Int32.ofNat 4293967295)] σ5) fun x20 σ19 => some (some (.inl x20), σ19)) else ts_ck a3 4 <| if (lg_cmp ((Int32.toInt64 a4) + (Int32.toInt64 a5)) (Int32.toInt64 (σ5 6 9 (a3.toNatClampNeg)))) ≤ nI 0 then (H_X5_copy_128 a1 a2 a3 a4 a5 (nI 0) σ5) else ts_bi (F_X5_finding [.inr (.inr (.inl (6, 0))), .inl (Int32.ofNat 4293967295)] σ5) fun x22 σ21 => some (some (.inl x22), σ21)) else ts_bi (F_X5_finding [.inr (.inr (.inl (6, 0))), .inl (Int32.ofNat 4293967293)] σ5) fun x24 σ23 => some (some (.inl x24), σ23)) := by
  exact (ts_unf E_X5_copy tb_X5_copy [128, 165] 118 _).trans rfl
set_option maxRecDepth 100000 in
set_option maxHeartbeats 2000000 in
theorem h_X5_copy_128 (v1 : Int32) (v2 : Int32) (v3 : Int32) (v4 : Int32) (v5 : Int32) (v6 : Int32) (σ : ts_S) : H_X5_copy_128 v1 v2 v3 v4 v5 v6 σ = (if v5 ≤ v6 then (H_X5_copy_165 v1 v2 v3 v4 v5 (nI 0) σ) else ts_ck ((((nI 40) * v1) + v2) + v6) 160 <| ts_ck v6 40 <| ts_nw (ts_up σ 6 11 (v6.toNatClampNeg) (σ 6 10 (((((nI 40) * v1) + v2) + v6).toNatClampNeg))) fun σ1 => H_X5_copy_128 v1 v2 v3 v4 v5 (v6 + (nI 1)) σ1) := by
  exact (ts_unf E_X5_copy tb_X5_copy [128, 165] 118 _).trans rfl
set_option maxRecDepth 100000 in
set_option maxHeartbeats 2000000 in
theorem h_X5_copy_165 (v1 : Int32) (v2 : Int32) (v3 : Int32) (v4 : Int32) (v5 : Int32) (v6 : Int32) (σ : ts_S) : H_X5_copy_165 v1 v2 v3 v4 v5 v6 σ = (if v5 ≤ v6 then (some (some (.inl v5), σ)) else ts_ck v6 40 <| ts_ck ((((nI 40) * v3) + v4) + v6) 160 <| ts_nw (ts_up σ 6 10 (((((nI 40) * v3) + v4) + v6).toNatClampNeg) (σ 6 11 (v6.toNatClampNeg))) fun σ1 => H_X5_copy_165 v1 v2 v3 v4 v5 (v6 + (nI 1)) σ1) := by
  exact (ts_unf E_X5_copy tb_X5_copy [128, 165] 118 _).trans rfl
noncomputable def H_X5_load_22 (v1 : Int32) (v2 : Int32) (σ : ts_S) : Option ts_A := ts_R E_X5_load tb_X5_load (22, [some (.inr (.inr (.inl (6, 0)))), some (.inl v1), some (.inl v2)], [], σ)
set_option maxRecDepth 100000 in
set_option maxHeartbeats 2000000 in
theorem e_X5_load (a1 : Int32) (σ : ts_S) : F_X5_load [.inr (.inr (.inl (6, 0))), .inl a1] σ = (ts_bi (F_X5_lacks [.inr (.inr (.inl (6, 0))), .inl a1, .inl (nI 1)] σ) fun x2 σ1 => if x2 = nI 0 then (H_X5_load_22 a1 (nI 0) σ1) else ts_bi (F_X5_lacks [.inr (.inr (.inl (6, 0))), .inl a1, .inl (nI 1)] σ1) fun x4 σ3 => ts_bi (F_X5_finding [.inr (.inr (.inl (6, 0))), .inl x4] σ3) fun x6 σ5 => some (some (.inl x6), σ5)) := by
  exact (ts_unf E_X5_load tb_X5_load [22] 55 _).trans rfl
set_option maxRecDepth 100000 in
set_option maxHeartbeats 2000000 in
theorem h_X5_load_22 (v1 : Int32) (v2 : Int32) (σ : ts_S) : H_X5_load_22 v1 v2 σ = (ts_ck v1 4 <| if (σ 6 9 (v1.toNatClampNeg)) ≤ v2 then (some (some (.inl v2), σ)) else ts_bi (F_X5_isPerson [.inr (.inr (.inl (6, 0))), .inl v2] σ) fun x2 σ1 => if x2 = nI 0 then (some (some (.inl v2), σ1)) else ts_ck (((nI 40) * v1) + v2) 160 <| ts_bi (F_X5_isSet [.inl (σ1 6 10 ((((nI 40) * v1) + v2).toNatClampNeg))] σ1) fun x4 σ3 => if x4 = nI 0 then (some (some (.inl v2), σ3)) else ts_bi (F_X5_personAt [.inl v2, .inl (nI 0)] σ3) fun x6 σ5 => ts_ck (((nI 40) * v1) + v2) 160 <| ts_ck x6 111 <| ts_nw (ts_up σ5 6 1 (x6.toNatClampNeg) (σ5 6 10 ((((nI 40) * v1) + v2).toNatClampNeg))) fun σ7 => H_X5_load_22 v1 (v2 + (nI 1)) σ7) := by
  exact (ts_unf E_X5_load tb_X5_load [22] 55 _).trans rfl
noncomputable def H_X5_judge_42 (v1 : Int32) (v2 : Int32) (v3 : Int32) (σ : ts_S) : Option ts_A := ts_R E_X5_judge tb_X5_judge (42, [some (.inr (.inr (.inl (6, 0)))), some (.inl v1), some (.inl v2), some (.inl v3)], [], σ)
set_option maxRecDepth 100000 in
set_option maxHeartbeats 2000000 in
theorem e_X5_judge (a1 : Int32) (σ : ts_S) : F_X5_judge [.inr (.inr (.inl (6, 0))), .inl a1] σ = (ts_bi (F_X5_lacks [.inr (.inr (.inl (6, 0))), .inl a1, .inl (nI 1)] σ) fun x2 σ1 => if x2 = nI 0 then (ts_ck (nI 1) 111 <| if (σ1 6 1 1) = nI 0 then (H_X5_judge_42 a1 (nI 0) (nI 0) σ1) else ts_bi (F_X5_sillIs [.inr (.inr (.inl (6, 0))), .inl (nI 0), .inl (nI 3)] σ1) fun x4 σ3 => H_X5_judge_42 a1 x4 (nI 0) σ3) else ts_bi (F_X5_lacks [.inr (.inr (.inl (6, 0))), .inl a1, .inl (nI 1)] σ1) fun x6 σ5 => ts_bi (F_X5_finding [.inr (.inr (.inl (6, 0))), .inl x6] σ5) fun x8 σ7 => some (some (.inl x8), σ7)) := by
  exact (ts_unf E_X5_judge tb_X5_judge [42] 67 _).trans rfl
set_option maxRecDepth 100000 in
set_option maxHeartbeats 2000000 in
theorem h_X5_judge_42 (v1 : Int32) (v2 : Int32) (v3 : Int32) (σ : ts_S) : H_X5_judge_42 v1 v2 v3 σ = (ts_ck v1 4 <| if (σ 6 9 (v1.toNatClampNeg)) ≤ v3 then (ts_ck v1 4 <| if v3 = (σ 6 9 (v1.toNatClampNeg)) then (some (some (.inl (nI 0)), σ)) else some (some (.inl ((nI 1) + v3)), σ)) else if v2 ≤ v3 then (ts_ck v1 4 <| if v3 = (σ 6 9 (v1.toNatClampNeg)) then (some (some (.inl (nI 0)), σ)) else some (some (.inl ((nI 1) + v3)), σ)) else ts_ck (((nI 40) * v1) + v3) 160 <| ts_bi (F_X5_sillIs [.inr (.inr (.inl (6, 0))), .inl (nI 0), .inl ((nI 4) + v3)] σ) fun x2 σ1 => if (σ 6 10 ((((nI 40) * v1) + v3).toNatClampNeg)) = x2 then (H_X5_judge_42 v1 v2 (v3 + (nI 1)) σ1) else ts_ck v1 4 <| if v3 = (σ1 6 9 (v1.toNatClampNeg)) then (some (some (.inl (nI 0)), σ1)) else some (some (.inl ((nI 1) + v3)), σ1)) := by
  exact (ts_unf E_X5_judge tb_X5_judge [42] 67 _).trans rfl
set_option maxRecDepth 100000 in
set_option maxHeartbeats 2000000 in
theorem e_X5_image (σ : ts_S) : F_X5_image [.inr (.inr (.inl (6, 0)))] σ = (ts_bv (F_X5_copyRow [.inr (.inr (.inl (6, 1))), .inr (.inr (.inl (6, 2)))] σ) fun σ1 => ts_nw (ts_up σ1 6 0 3 (nI 1)) fun σ2 => some (some (.inl (nI 1)), σ2)) := by
  exact (ts_unf E_X5_image tb_X5_image [] 13 _).trans rfl
set_option maxRecDepth 100000 in
set_option maxHeartbeats 2000000 in
theorem e_X5_undo (σ : ts_S) : F_X5_undo [.inr (.inr (.inl (6, 0)))] σ = (if (σ 6 0 3) = nI 0 then (ts_bi (F_X5_finding [.inr (.inr (.inl (6, 0))), .inl (Int32.ofNat 4293967292)] σ) fun x2 σ1 => some (some (.inl x2), σ1)) else ts_bv (F_X5_copyRow [.inr (.inr (.inl (6, 2))), .inr (.inr (.inl (6, 1)))] σ) fun σ3 => ts_ck (nI 0) 111 <| some (some (.inl (σ3 6 1 0)), σ3)) := by
  exact (ts_unf E_X5_undo tb_X5_undo [] 20 _).trans rfl
set_option maxRecDepth 100000 in
set_option maxHeartbeats 2000000 in
theorem e_X5_tear (σ : ts_S) : F_X5_tear [.inr (.inr (.inl (6, 0)))] σ = (if (σ 6 0 3) = nI 0 then (ts_nw (ts_up σ 6 0 3 (nI 0)) fun σ1 => some (some (.inl (nI 0)), σ1)) else ts_nw (ts_up σ 6 0 3 (nI 0)) fun σ2 => some (some (.inl (nI 1)), σ2)) := by
  exact (ts_unf E_X5_tear tb_X5_tear [] 15 _).trans rfl
noncomputable def H_X5_count_96 (v1 : Int32) (v2 : Int32) (v3 : Int32) (σ : ts_S) : Option ts_A := ts_R E_X5_count tb_X5_count (96, [some (.inr (.inr (.inl (6, 0)))), some (.inl v1), some (.inl v2), some (.inl v3)], [], σ)
set_option maxRecDepth 100000 in
set_option maxHeartbeats 2000000 in
theorem e_X5_count (a1 : Int32) (σ : ts_S) : F_X5_count [.inr (.inr (.inl (6, 0))), .inl a1] σ = (if a1 = nI 0 then (ts_ck (nI 0) 111 <| some (some (.inl (σ 6 1 0)), σ)) else if a1 = nI 1 then (ts_ck (nI 1) 111 <| some (some (.inl (σ 6 1 1)), σ)) else if a1 = nI 2 then (ts_ck (nI 3) 111 <| some (some (.inl (σ 6 1 3)), σ)) else if a1 = nI 3 then (ts_ck (nI 4) 111 <| some (some (.inl (σ 6 1 4)), σ)) else if a1 = nI 4 then (ts_bi (F_X5_sumOf [.inr (.inr (.inl (6, 0))), .inl (nI 3)] σ) fun x2 σ1 => some (some (.inl x2), σ1)) else if a1 = nI 5 then (some (some (.inl (σ 6 0 6)), σ)) else if a1 = nI 6 then (ts_ck (nI 2) 111 <| some (some (.inl (σ 6 1 2)), σ)) else if a1 = nI 7 then (H_X5_count_96 a1 (nI 0) (nI 0) σ) else ts_bi (F_X5_finding [.inr (.inr (.inl (6, 0))), .inl (Int32.ofNat 4293967295)] σ) fun x4 σ3 => some (some (.inl x4), σ3)) := by
  exact (ts_unf E_X5_count tb_X5_count [96] 65 _).trans rfl
set_option maxRecDepth 100000 in
set_option maxHeartbeats 2000000 in
theorem h_X5_count_96 (v1 : Int32) (v2 : Int32) (v3 : Int32) (σ : ts_S) : H_X5_count_96 v1 v2 v3 σ = (if (nI 10) ≤ v3 then (some (some (.inl v2), σ)) else ts_ck ((nI 11) + v3) 111 <| if nI 0 ≤ (σ 6 1 (((nI 11) + v3).toNatClampNeg)) then (ts_ni (v2 + (nI 1)) fun y1 => H_X5_count_96 v1 y1 (v3 + (nI 1)) σ) else ts_ni (v2 + (nI 0)) fun y2 => H_X5_count_96 v1 y2 (v3 + (nI 1)) σ) := by
  exact (ts_unf E_X5_count tb_X5_count [96] 65 _).trans rfl
set_option maxRecDepth 100000 in
set_option maxHeartbeats 2000000 in
theorem e_X5_status (a1 : Int32) (σ : ts_S) : F_X5_status [.inr (.inr (.inl (6, 0))), .inl a1] σ = (ts_bi (F_X5_within [.inl a1, .inl (-1), .inl (nI 6)] σ) fun x2 σ1 => if x2 = nI 0 then (ts_bi (F_X5_finding [.inr (.inr (.inl (6, 0))), .inl (Int32.ofNat 4293967295)] σ1) fun x4 σ3 => some (some (.inl x4), σ3)) else ts_ck (a1 + (nI 1)) 8 <| some (some (.inl (σ1 6 4 ((a1 + (nI 1)).toNatClampNeg))), σ1)) := by
  exact (ts_unf E_X5_status tb_X5_status [] 19 _).trans rfl
end
section
/-! pure rows: binds, checks, small numbers -/
theorem bi_s (x : Int32) (σ : ts_S) (f : Int32 → ts_S → Option ts_A) : ts_bi (some (some (.inl x), σ)) f = f x σ := rfl
theorem bv_s (σ : ts_S) (f : ts_S → Option ts_A) : ts_bv (some (none, σ)) f = f σ := rfl
theorem bl_s (x : Int64) (σ : ts_S) (f : Int64 → ts_S → Option ts_A) : ts_bl (some (some (.inr (.inl x)), σ)) f = f x σ := rfl
theorem bs_s (j : Nat) (σ : ts_S) (f : Nat → ts_S → Option ts_A) : ts_bs (some (some (.inr (.inr (.inr j))), σ)) f = f j σ := rfl
theorem nw_s (s : ts_S) (f : ts_S → Option ts_A) : ts_nw s f = f s := rfl
theorem ni_s (x : Int32) (f : Int32 → Option ts_A) : ts_ni x f = f x := rfl
theorem nj_s (x : Int64) (f : Int64 → Option ts_A) : ts_nj x f = f x := rfl
theorem ck_n {j n : Nat} (x : Option ts_A) (h : j < n) (hn : n < 2 ^ 31) : ts_ck (nI j) n x = x := if_neg (vp_in_nI h hn)
theorem n10 : ¬ nI 1 = nI 0 := by decide
theorem n01 : ¬ nI 0 = nI 1 := by decide
theorem nm {n : Nat} (h : n < 2 ^ 31) : ¬ nI n = -1 := by
  intro e
  have := congrArg Int32.toInt e
  rw [nI_toInt h] at this
  have e2 : (-1 : Int32).toInt = -1 := by decide
  omega
theorem nm' {n : Nat} (h : n < 2 ^ 31) : ¬ (-1 : Int32) = nI n := fun e => nm h e.symm
theorem nn {n : Nat} (h : n < 2 ^ 31) : ¬ nI n < nI 0 := nI_nlt (Nat.zero_le n) h
theorem nge {n : Nat} (h : n < 2 ^ 31) : nI 0 ≤ nI n := nI_le (Nat.zero_le n) h
theorem m1lt : (-1 : Int32) < nI 0 := by decide
theorem m1ge : ¬ nI 0 ≤ (-1 : Int32) := by decide
theorem m1clamp : (-1 : Int32).toNatClampNeg = 0 := by decide
theorem nI_m1' (n : Nat) : nI (n + 1) - nI 1 = nI n := by
  rw [pk_sub (by omega)]; rfl
theorem low_b : Int32.ofNat 4293967295 = -1000001 := by decide
/-! the tests -/
theorem below_t {a b : Int32} (σ : ts_S) (h : nI 0 ≤ a ∧ a < b) : F_X4_isBelow [.inl a, .inl b] σ = some (some (.inl (nI 1)), σ) := by
  rw [e_X4_isBelow, if_neg (Int32.not_lt.mpr h.1), if_neg (Int32.not_le.mpr h.2)]
theorem below_f {a b : Int32} (σ : ts_S) (h : ¬ (nI 0 ≤ a ∧ a < b)) : F_X4_isBelow [.inl a, .inl b] σ = some (some (.inl (nI 0)), σ) := by
  rw [e_X4_isBelow]
  by_cases h1 : a < nI 0
  · rw [if_pos h1]
  · rw [if_neg h1]
    by_cases h2 : b ≤ a
    · rw [if_pos h2]
    · exact absurd ⟨Int32.not_lt.mp h1, Int32.not_le.mp h2⟩ h
theorem within_t {a l h : Int32} (σ : ts_S) (q : l ≤ a ∧ a ≤ h) : F_X4_isWithin [.inl a, .inl l, .inl h] σ = some (some (.inl (nI 1)), σ) := by
  rw [e_X4_isWithin, if_neg (Int32.not_lt.mpr q.1), if_neg (Int32.not_lt.mpr q.2)]
theorem within_f {a l h : Int32} (σ : ts_S) (q : ¬ (l ≤ a ∧ a ≤ h)) : F_X4_isWithin [.inl a, .inl l, .inl h] σ = some (some (.inl (nI 0)), σ) := by
  rw [e_X4_isWithin]
  by_cases h1 : a < l
  · rw [if_pos h1]
  · rw [if_neg h1]
    by_cases h2 : h < a
    · rw [if_pos h2]
    · exact absurd ⟨Int32.not_lt.mp h1, Int32.not_lt.mp h2⟩ q
theorem mwithin_t {a l h : Int32} (σ : ts_S) (q : l ≤ a ∧ a ≤ h) : F_X5_within [.inl a, .inl l, .inl h] σ = some (some (.inl (nI 1)), σ) := by
  rw [e_X5_within, if_neg (Int32.not_lt.mpr q.1), if_neg (Int32.not_lt.mpr q.2)]
theorem mwithin_f {a l h : Int32} (σ : ts_S) (q : ¬ (l ≤ a ∧ a ≤ h)) : F_X5_within [.inl a, .inl l, .inl h] σ = some (some (.inl (nI 0)), σ) := by
  rw [e_X5_within]
  by_cases h1 : a < l
  · rw [if_pos h1]
  · rw [if_neg h1]
    by_cases h2 : h < a
    · rw [if_pos h2]
    · exact absurd ⟨Int32.not_lt.mp h1, Int32.not_lt.mp h2⟩ q
/-- a number in a range is one of its naturals -/
theorem in_of {a : Int32} {n : Nat} (hn : n < 2 ^ 31) (h : nI 0 ≤ a ∧ a < nI n) : ∃ j, j < n ∧ a = nI j := by
  obtain ⟨j, hj, rfl⟩ := nI_of (x := a) (by rw [← nI_0]; exact Int32.not_lt.mpr h.1)
  exact ⟨j, (nI_ltI hj hn).mp h.2, rfl⟩
theorem in_ofw {a : Int32} {n : Nat} (hn : n < 2 ^ 31) (h : nI 0 ≤ a ∧ a ≤ nI n) : ∃ j, j ≤ n ∧ a = nI j := by
  obtain ⟨j, hj, rfl⟩ := nI_of (x := a) (by rw [← nI_0]; exact Int32.not_lt.mpr h.1)
  exact ⟨j, (nI_leI hj hn).mp h.2, rfl⟩
theorem below_n {a b : Nat} (σ : ts_S) (h : a < b) (hb : b < 2 ^ 31) : F_X4_isBelow [.inl (nI a), .inl (nI b)] σ = some (some (.inl (nI 1)), σ) := below_t σ ⟨nge (by omega), nI_lt h hb⟩
theorem below_nf {a b : Nat} (σ : ts_S) (h : ¬ a < b) (ha : a < 2 ^ 31) : F_X4_isBelow [.inl (nI a), .inl (nI b)] σ = some (some (.inl (nI 0)), σ) := below_f σ (fun q => by
  have := (nI_ltI ha (by omega)).mp q.2
  omega)
theorem below_m {b : Int32} (σ : ts_S) : F_X4_isBelow [.inl (-1), .inl b] σ = some (some (.inl (nI 0)), σ) := below_f σ (fun q => m1ge q.1)
theorem min_e (a b : Int32) (σ : ts_S) : F_J9_min_7cf53 [.inl a, .inl b] σ = some (some (.inl (if b < a then b else a)), σ) := by
  rw [e_J9_min_7cf53]
  split <;> rfl
/-! the row of the model: places of a sill's and of a person's numbers -/
def sx (i f : Nat) : Nat := 21 + 9 * i + f
def px (p f : Nat) : Nat := 93 + 3 * p + f
def mr (σ : ts_S) (ρ : Nat → Int32) : ts_S := va_up σ 6 (va_up (σ 6) 1 ρ)
theorem mr_up (σ : ts_S) (j : Nat) (x : Int32) : ts_up σ 6 1 j x = mr σ (upd (σ 6 1) j x) := rfl
theorem mr_rd (σ : ts_S) (ρ : Nat → Int32) : (mr σ ρ) 6 1 = ρ := rfl
theorem up_uu {α : Type} (f : Nat → α) (k : Nat) (v w : α) : va_up (va_up f k v) k w = va_up f k w := bx_uu f k v w
theorem up_id {α : Type} (f : Nat → α) (k : Nat) : va_up f k (f k) = f := by
  funext j
  unfold va_up
  split
  · next h => rw [h]
  · rfl
theorem up_at {α : Type} (f : Nat → α) (k : Nat) (v : α) : va_up f k v k = v := if_pos rfl
theorem up_ne {α : Type} (f : Nat → α) {k j : Nat} (v : α) (h : ¬ j = k) : va_up f k v j = f j := if_neg h
theorem mr_mr (σ : ts_S) (a b : Nat → Int32) : mr (mr σ a) b = mr σ b := by
  show va_up (va_up σ 6 _) 6 (va_up (va_up σ 6 (va_up (σ 6) 1 a) 6) 1 b) = _
  rw [up_uu, up_at, up_uu]; rfl
theorem mr_id (σ : ts_S) : mr σ (σ 6 1) = σ := by
  show va_up σ 6 (va_up (σ 6) 1 (σ 6 1)) = σ
  rw [up_id, up_id]
theorem sx_lt {i f : Nat} (h : i < 8) (hf : f < 9) : sx i f < 93 := by unfold sx; omega
theorem px_lt {p f : Nat} (h : p < 6) (hf : f < 3) : px p f < 111 := by unfold px; omega
theorem m_sillAt {i f : Nat} (σ : ts_S) : F_X5_sillAt [.inl (nI i), .inl (nI f)] σ = some (some (.inl (nI (sx i f))), σ) := by
  rw [e_X5_sillAt, pk_mul, nI_add, nI_add]; rfl
theorem m_personAt {p f : Nat} (σ : ts_S) : F_X5_personAt [.inl (nI p), .inl (nI f)] σ = some (some (.inl (nI (px p f))), σ) := by
  rw [e_X5_personAt, pk_mul, nI_add, nI_add]; rfl
theorem m_sillIs {i f : Nat} (σ : ts_S) (h : i < 8) (hf : f < 9) : F_X5_sillIs [.inr (.inr (.inl (6, 0))), .inl (nI i), .inl (nI f)] σ = some (some (.inl (σ 6 1 (sx i f))), σ) := by
  have h1 := sx_lt h hf
  rw [e_X5_sillIs, m_sillAt, bi_s, ck_n _ (by omega) (by omega), nI_clamp (by omega)]
theorem m_personIs {p f : Nat} (σ : ts_S) (h : p < 6) (hf : f < 3) : F_X5_personIs [.inr (.inr (.inl (6, 0))), .inl (nI p), .inl (nI f)] σ = some (some (.inl (σ 6 1 (px p f))), σ) := by
  have h1 := px_lt h hf
  rw [e_X5_personIs, m_personAt, bi_s, ck_n _ (by omega) (by omega), nI_clamp (by omega)]
end
section
/-! kinds: what is taken, held, given; words as bits -/
def S_bit (s w : Int32) : Int32 := (s >>> (w &&& nI 31)) &&& nI 1
theorem S_bit_01 (s w : Int32) : S_bit s w = nI 0 ∨ S_bit s w = nI 1 := by
  obtain ⟨j, hj, e⟩ := pk_andE (s >>> (w &&& nI 31)) (m := nI 1) 1 (by decide)
  unfold S_bit
  rw [e]
  rcases (show j = 0 ∨ j = 1 by omega) with rfl | rfl
  · exact Or.inl rfl
  · exact Or.inr rfl
theorem S_bit_n0 {s w : Int32} : ¬ S_bit s w = nI 0 ↔ S_bit s w = nI 1 := by
  rcases S_bit_01 s w with h | h <;> rw [h] <;> simp [n10, n01]
theorem S_bit_n1 {s w : Int32} : ¬ S_bit s w = nI 1 ↔ S_bit s w = nI 0 := by
  rcases S_bit_01 s w with h | h <;> rw [h] <;> simp [n10, n01]
def S_gr (s : Int32) : Nat → Int32
  | 0 => -1
  | n + 1 => if S_bit s (nI n) = nI 0 then S_gr s n else nI n
def S_ls (s : Int32) : Nat → Int32
  | 0 => -1
  | k + 1 => if S_bit s (nI (11 - k)) = nI 0 then S_ls s k else nI (11 - k)
theorem S_gr_or (s : Int32) : ∀ n, S_gr s n = -1 ∨ ∃ w, w < n ∧ S_gr s n = nI w
  | 0 => Or.inl rfl
  | n + 1 => by
    rw [S_gr]
    split
    · rcases S_gr_or s n with h | ⟨w, h1, h2⟩
      · exact Or.inl h
      · exact Or.inr ⟨w, by omega, h2⟩
    · exact Or.inr ⟨n, by omega, rfl⟩
theorem S_ls_or (s : Int32) : ∀ n, S_ls s n = -1 ∨ ∃ w, w < 12 ∧ S_ls s n = nI w
  | 0 => Or.inl rfl
  | n + 1 => by
    rw [S_ls]
    split
    · exact S_ls_or s n
    · exact Or.inr ⟨11 - n, by omega, rfl⟩
theorem c_gr_loop (s : Int32) (σ : ts_S) : ∀ n, n ≤ 12 → H_X0_greatest_3 s (nI n + (-1)) σ = some (some (.inl (S_gr s n)), σ)
  | 0, _ => by
    rw [h_X0_greatest_3, if_pos (by decide)]; rfl
  | n + 1, h => by
    rw [h_X0_greatest_3, pk_m1, if_neg (nn (by omega)), c_gr_loop s σ n (by omega), S_gr]
    show (if S_bit s (nI n) = nI 0 then _ else _) = _
    split <;> rfl
theorem m_gr_loop (s : Int32) (σ : ts_S) : ∀ n, n ≤ 12 → H_X5_greatest_3 s (nI n + (-1)) σ = some (some (.inl (S_gr s n)), σ)
  | 0, _ => by
    rw [h_X5_greatest_3, if_pos (by decide)]; rfl
  | n + 1, h => by
    rw [h_X5_greatest_3, pk_m1, if_neg (nn (by omega)), m_gr_loop s σ n (by omega), S_gr]
    show (if S_bit s (nI n) = nI 0 then _ else _) = _
    split <;> rfl
theorem c_greatest (s : Int32) (σ : ts_S) : F_X0_greatest [.inl s] σ = some (some (.inl (S_gr s 12)), σ) := by
  rw [e_X0_greatest, ← c_gr_loop s σ 12 (by omega), pk_m1]
theorem m_greatest (s : Int32) (σ : ts_S) : F_X5_greatest [.inl s] σ = some (some (.inl (S_gr s 12)), σ) := by
  rw [e_X5_greatest, ← m_gr_loop s σ 12 (by omega), pk_m1]
theorem c_ls_loop (s : Int32) (σ : ts_S) : ∀ k, k ≤ 12 → H_X0_least_2 s (nI (12 - k)) σ = some (some (.inl (S_ls s k)), σ)
  | 0, _ => by
    rw [h_X0_least_2, if_pos (by decide)]; rfl
  | k + 1, h => by
    have e : 12 - (k + 1) = 11 - k := by omega
    have e2 : 11 - k + 1 = 12 - k := by omega
    rw [e, h_X0_least_2, if_neg (nI_ge (by omega) (by omega)), nI_add, e2, c_ls_loop s σ k (by omega), S_ls]
    show (if S_bit s (nI (11 - k)) = nI 0 then _ else _) = _
    split <;> rfl
theorem m_ls_loop (s : Int32) (σ : ts_S) : ∀ k, k ≤ 12 → H_X5_least_2 s (nI (12 - k)) σ = some (some (.inl (S_ls s k)), σ)
  | 0, _ => by
    rw [h_X5_least_2, if_pos (by decide), if_pos rfl]; rfl
  | k + 1, h => by
    have e : 12 - (k + 1) = 11 - k := by omega
    have e2 : 11 - k + 1 = 12 - k := by omega
    rw [e, h_X5_least_2, if_neg (nI_ge (by omega) (by omega)), nI_add, e2, m_ls_loop s σ k (by omega), S_ls, if_neg (show ¬ nI (11 - k) = nI 12 from fun q => by
      have := (nI_eq (by omega) (by omega)).mp q
      omega)]
    show (if S_bit s (nI (11 - k)) = nI 0 then _ else _) = _
    split <;> rfl
theorem c_least (s : Int32) (σ : ts_S) : F_X0_least [.inl s] σ = some (some (.inl (S_ls s 12)), σ) := by
  rw [e_X0_least, ← c_ls_loop s σ 12 (by omega)]
theorem m_least (s : Int32) (σ : ts_S) : F_X5_least [.inl s] σ = some (some (.inl (S_ls s 12)), σ) := by
  rw [e_X5_least, ← m_ls_loop s σ 12 (by omega)]
/-- what a kind takes of a set, by what is kept -/
def S_tk (k s q : Int32) : Int32 :=
  if k = nI 1 then S_ls s 12 else if k = nI 6 then S_ls s 12 else
  if k = nI 2 then S_gr (s &&& nI 1365) 12 else
  if k = nI 3 then (if S_gr (s &&& nI 1365) 12 = -1 then S_gr s 12 else S_gr (s &&& nI 1365) 12) else
  if k = nI 4 then (if S_gr (s &&& nI 1365) 12 = -1 then (if S_gr s 12 = -1 then -1 else if S_bit q (S_gr s 12) = nI 0 then S_gr s 12 else -1) else if S_bit q (S_gr (s &&& nI 1365) 12) = nI 0 then S_gr (s &&& nI 1365) 12 else -1) else S_gr s 12
theorem ki_eq {a b : Nat} (ha : a < 2 ^ 31) (hb : b < 2 ^ 31) (h : ¬ a = b) : ¬ nI a = nI b := fun q => h ((nI_eq ha hb).mp q)
theorem S_tk_or (k s q : Int32) : S_tk k s q = -1 ∨ ∃ w, w < 12 ∧ S_tk k s q = nI w := by
  have h1 := S_gr_or s 12
  have h2 := S_gr_or (s &&& nI 1365) 12
  have h3 := S_ls_or s 12
  unfold S_tk
  repeat' split
  all_goals first | exact h3 | exact h2 | exact h1 | exact Or.inl rfl
theorem c_wordTaken (k s q : Int32) (σ : ts_S) : F_X0_wordTaken [.inl k, .inl s, .inl q] σ = some (some (.inl (S_tk k s q)), σ) := by
  simp only [e_X0_wordTaken, c_greatest, c_least, bi_s]
  have hb : ∀ x y : Int32, ((x >>> (y &&& nI 31)) &&& nI 1) = S_bit x y := fun _ _ => rfl
  simp only [hb]
  unfold S_tk
  by_cases h1 : k = nI 1
  · simp [h1]
  by_cases h6 : k = nI 6
  · subst h6
    simp [ki_eq (show 6 < 2 ^ 31 by omega) (show 1 < 2 ^ 31 by omega) (by omega), ki_eq (show 6 < 2 ^ 31 by omega) (show 2 < 2 ^ 31 by omega) (by omega), ki_eq (show 6 < 2 ^ 31 by omega) (show 3 < 2 ^ 31 by omega) (by omega), ki_eq (show 6 < 2 ^ 31 by omega) (show 4 < 2 ^ 31 by omega) (by omega), ki_eq (show 6 < 2 ^ 31 by omega) (show 5 < 2 ^ 31 by omega) (by omega)]
  simp only [h1, h6, if_false]
  by_cases h2 : k = nI 2
  · simp only [h2, if_true]; split <;> rfl
  by_cases h3 : k = nI 3
  · simp only [h2, h3, if_true, if_false]
    subst h3
    simp only [ki_eq (show 3 < 2 ^ 31 by omega) (show 2 < 2 ^ 31 by omega) (by omega), if_false]
    split <;> rfl
  simp only [h2, h3, if_false]
  by_cases h4 : k = nI 4
  · simp only [h4, if_true]
    split
    · next e =>
      split
      · next e2 => rw [e2]
      · split <;> rfl
    · split <;> rfl
  · simp only [h4, if_false]
    split <;> split <;> rfl
end
section
/-! the model's row: crossings and days, as functions of rows -/
def S_ks (f : Nat → Int32) : Nat → Int32
  | 0 => nI 0
  | m + 1 => S_ks f m ||| (nI 1 <<< (f m &&& nI 31))
def S_hd (k : Int32) : Int32 := if k = nI 1 then nI 4 else if k = nI 2 then nI 5 else if k = nI 3 then nI 4 else if k = nI 4 then nI 2 else if k = nI 5 then nI 3 else if k = nI 6 then nI 0 else nI 3
/-- from which place is given: of m words, by kind and wear -/
def S_gf (k w : Int32) (m : Nat) : Int32 := if m = 0 then -1 else if k = nI 2 then nI (m - 1) else if k = nI 3 then (if w - w / nI 3 * nI 3 = nI 0 then nI 0 else nI (m - 1)) else if k = nI 4 then (if w - w / nI 3 * nI 3 = nI 0 then nI 0 else nI (m - 1)) else if k = nI 5 then -1 else nI 0
theorem S_gf_or (k w : Int32) (m : Nat) : S_gf k w m = -1 ∨ ∃ j, j < m ∧ S_gf k w m = nI j := by
  unfold S_gf
  by_cases h : m = 0
  · rw [if_pos h]; exact Or.inl rfl
  · rw [if_neg h]
    repeat' split
    all_goals first | exact Or.inl rfl | exact Or.inr ⟨0, by omega, rfl⟩ | exact Or.inr ⟨m - 1, by omega, rfl⟩
/-- how many words a sill keeps -/
def nK (ρ : Nat → Int32) (i : Nat) : Nat := (ρ (sx i 3)).toNatClampNeg
def S_set (ρ : Nat → Int32) (i : Nat) : Int32 := S_ks (fun k => ρ (sx i (4 + k))) (nK ρ i)
def S_from (ρ : Nat → Int32) (i : Nat) : Int32 := S_gf (ρ (sx i 0)) (ρ (sx i 1)) (nK ρ i)
def S_gives (ρ : Nat → Int32) (i : Nat) : Int32 := if S_from ρ i = -1 then -1 else ρ (sx i (4 + (S_from ρ i).toNatClampNeg))
def S_takes (ρ : Nat → Int32) (i : Nat) (s : Int32) : Int32 := S_tk (ρ (sx i 0)) s (S_set ρ i)
/-- a sill of a row, well made -/
def okS (ρ : Nat → Int32) (i : Nat) : Prop := i < 8 ∧ (∃ m, m ≤ 5 ∧ ρ (sx i 3) = nI m)
theorem okS_k {ρ : Nat → Int32} {i : Nat} (h : okS ρ i) : ρ (sx i 3) = nI (nK ρ i) ∧ nK ρ i ≤ 5 := by
  obtain ⟨m, h1, h2⟩ := h.2
  unfold nK
  rw [h2, nI_clamp (by omega)]
  exact ⟨rfl, h1⟩
theorem m_holds {i : Nat} (σ : ts_S) (h : i < 8) : F_X5_holds [.inr (.inr (.inl (6, 0))), .inl (nI i)] σ = some (some (.inl (S_hd (σ 6 1 (sx i 0)))), σ) := by
  rw [e_X5_holds, m_sillIs σ h (by omega), bi_s]
  unfold S_hd
  repeat' split
  all_goals rfl
theorem m_ks_loop {i : Nat} (σ : ts_S) (h : okS (σ 6 1) i) : ∀ n j, j + n = nK (σ 6 1) i → H_X5_keptSet_4 (nI i) (S_ks (fun k => σ 6 1 (sx i (4 + k))) j) (nI j) σ = some (some (.inl (S_set (σ 6 1) i)), σ)
  | 0, j, e => by
    obtain ⟨h1, h2⟩ := okS_k h
    rw [h_X5_keptSet_4, m_sillIs σ h.1 (by omega), bi_s, h1, if_pos (nI_le (by omega) (by omega)), S_set, ← e]; rfl
  | n + 1, j, e => by
    obtain ⟨h1, h2⟩ := okS_k h
    rw [h_X5_keptSet_4, m_sillIs σ h.1 (by omega), bi_s, h1, if_neg (nI_ge (by omega) (by omega)), nI_add, m_sillIs σ h.1 (by omega), bi_s, ni_s, nI_add]
    exact m_ks_loop σ h n (j + 1) (by omega)
theorem m_keptSet {i : Nat} (σ : ts_S) (h : okS (σ 6 1) i) : F_X5_keptSet [.inr (.inr (.inl (6, 0))), .inl (nI i)] σ = some (some (.inl (S_set (σ 6 1) i)), σ) := by
  rw [e_X5_keptSet]
  exact m_ks_loop σ h (nK (σ 6 1) i) 0 (by omega)
theorem m_givesFrom {i : Nat} (σ : ts_S) (h : okS (σ 6 1) i) : F_X5_givesFrom [.inr (.inr (.inl (6, 0))), .inl (nI i)] σ = some (some (.inl (S_from (σ 6 1) i)), σ) := by
  obtain ⟨h1, h2⟩ := okS_k h
  simp only [e_X5_givesFrom, m_sillIs σ h.1 (show 3 < 9 by omega), m_sillIs σ h.1 (show 0 < 9 by omega), m_sillIs σ h.1 (show 1 < 9 by omega), bi_s, ni_s, h1]
  unfold S_from S_gf
  by_cases hm : nK (σ 6 1) i = 0
  · rw [hm, if_neg (by decide), if_pos rfl]
    have e : nI 0 - nI 1 = -1 := by decide
    rw [e]
    repeat' split
    all_goals rfl
  · obtain ⟨m, hm2⟩ : ∃ m, nK (σ 6 1) i = m + 1 := ⟨nK (σ 6 1) i - 1, by omega⟩
    rw [hm2, nI_m1', if_pos (nge (by omega)), if_neg (show ¬ m + 1 = 0 by omega), Nat.add_sub_cancel]
    repeat' split
    all_goals rfl
theorem S_from_or (ρ : Nat → Int32) (i : Nat) : S_from ρ i = -1 ∨ ∃ j, j < nK ρ i ∧ S_from ρ i = nI j := S_gf_or _ _ _
theorem m_gives {i : Nat} (σ : ts_S) (h : okS (σ 6 1) i) : F_X5_gives [.inr (.inr (.inl (6, 0))), .inl (nI i)] σ = some (some (.inl (S_gives (σ 6 1) i)), σ) := by
  obtain ⟨h1, h2⟩ := okS_k h
  rw [e_X5_gives, m_givesFrom σ h, bi_s]
  unfold S_gives
  rcases S_from_or (σ 6 1) i with e | ⟨j, hj, e⟩
  · rw [e, if_neg m1ge, if_pos rfl]
  · rw [e, if_pos (nge (by omega)), if_neg (nm (by omega)), nI_add, m_sillIs σ h.1 (by omega), bi_s, nI_clamp (by omega)]
theorem m_takesOf {i : Nat} (s : Int32) (σ : ts_S) (h : okS (σ 6 1) i) : F_X5_takesOf [.inr (.inr (.inl (6, 0))), .inl (nI i), .inl s] σ = some (some (.inl (S_takes (σ 6 1) i s)), σ) := by
  simp only [e_X5_takesOf, m_greatest, m_least, m_sillIs σ h.1 (show 0 < 9 by omega), m_keptSet σ h, bi_s]
  have hb : ∀ x y : Int32, ((x >>> (y &&& nI 31)) &&& nI 1) = S_bit x y := fun _ _ => rfl
  simp only [hb]
  unfold S_takes S_tk
  generalize σ 6 1 (sx i 0) = k
  generalize S_set (σ 6 1) i = q
  have hk : k = nI 1 ∨ k = nI 2 ∨ k = nI 3 ∨ k = nI 4 ∨ k = nI 5 ∨ k = nI 6 ∨ (¬ k = nI 1 ∧ ¬ k = nI 2 ∧ ¬ k = nI 3 ∧ ¬ k = nI 4 ∧ ¬ k = nI 5 ∧ ¬ k = nI 6) := by
    by_cases h1 : k = nI 1
    · exact Or.inl h1
    by_cases h2 : k = nI 2
    · exact Or.inr (Or.inl h2)
    by_cases h3 : k = nI 3
    · exact Or.inr (Or.inr (Or.inl h3))
    by_cases h4 : k = nI 4
    · exact Or.inr (Or.inr (Or.inr (Or.inl h4)))
    by_cases h5 : k = nI 5
    · exact Or.inr (Or.inr (Or.inr (Or.inr (Or.inl h5))))
    by_cases h6 : k = nI 6
    · exact Or.inr (Or.inr (Or.inr (Or.inr (Or.inr (Or.inl h6)))))
    exact Or.inr (Or.inr (Or.inr (Or.inr (Or.inr (Or.inr ⟨h1, h2, h3, h4, h5, h6⟩)))))
  have hB : ∀ x y : Int32, (S_bit x y = nI 1) = ¬ (S_bit x y = nI 0) := fun x y => propext S_bit_n0.symm
  rcases S_gr_or (s &&& nI 1365) 12 with e | ⟨w, hw, e⟩
  · rcases S_gr_or s 12 with e2 | ⟨w2, hw2, e2⟩
    · rcases hk with rfl | rfl | rfl | rfl | rfl | rfl | ⟨h1, h2, h3, h4, h5, h6⟩ <;> simp (disch := omega) [e, e2, hB, nI_eq, m1ge, m1lt, *]
    · rcases hk with rfl | rfl | rfl | rfl | rfl | rfl | ⟨h1, h2, h3, h4, h5, h6⟩ <;> simp (disch := omega) [e, e2, hB, nI_eq, m1ge, m1lt, nn, nm, nge, *]
      split <;> rfl
  · rcases hk with rfl | rfl | rfl | rfl | rfl | rfl | ⟨h1, h2, h3, h4, h5, h6⟩ <;> simp (disch := omega) [e, hB, nI_eq, m1ge, m1lt, nn, nm, nge, *]
    split <;> rfl
end
section
/-! the model: one crosses; days -/
theorem upd_at (ρ : Nat → Int32) (a : Nat) (v : Int32) : upd ρ a v a = v := if_pos rfl
theorem upd_ne (ρ : Nat → Int32) {a b : Nat} (v : Int32) (h : ¬ b = a) : upd ρ a v b = ρ b := if_neg h
def S_mo (v h : Int32) : Int32 := if v + nI 1 < h then v + nI 1 else h
theorem m_more {a : Nat} (h : Int32) (σ : ts_S) (ha : a < 111) : F_X5_more [.inr (.inr (.inl (6, 0))), .inl (nI a), .inl (nI 1), .inl h] σ = some (none, mr σ (upd (σ 6 1) a (S_mo (σ 6 1 a) h))) := by
  rw [e_X5_more, ck_n _ ha (by omega), min_e, bi_s, ck_n _ ha (by omega), nw_s, nI_clamp (by omega), mr_up]; rfl
def S_lay (ρ : Nat → Int32) (i : Nat) (w : Int32) : Nat → Int32 := upd (upd ρ (sx i (4 + nK ρ i)) w) (sx i 3) (ρ (sx i 3) + nI 1)
theorem m_lays {i : Nat} (w : Int32) (σ : ts_S) (h : okS (σ 6 1) i) (hm : nK (σ 6 1) i < 5) : F_X5_lays [.inr (.inr (.inl (6, 0))), .inl (nI i), .inl w] σ = some (some (.inl (σ 6 1 (sx i 3) + nI 1)), mr σ (S_lay (σ 6 1) i w)) := by
  obtain ⟨h1, h2⟩ := okS_k h
  have hi := h.1
  have q1 : sx i (4 + nK (σ 6 1) i) < 111 := by unfold sx; omega
  have q2 : sx i 3 < 111 := by unfold sx; omega
  have q3 : ¬ sx i 3 = sx i (4 + nK (σ 6 1) i) := by unfold sx; omega
  rw [e_X5_lays, m_sillIs σ h.1 (by omega), bi_s]
  conv => lhs; rw [h1]
  rw [nI_add, m_sillAt, bi_s, ck_n _ q1 (by omega), nw_s, nI_clamp (by omega), mr_up, m_sillAt, bi_s, ck_n _ q2 (by omega), ck_n _ q2 (by omega), nw_s, nI_clamp (by omega), mr_up, mr_rd, mr_mr, m_sillIs _ h.1 (by omega), bi_s, mr_rd, upd_at, upd_ne _ _ q3]; rfl
def S_may (ρ : Nat → Int32) (p i : Nat) : Prop := ρ (sx i 2) = nI 0 ∧ (ρ (px p 1) = -1 ∨ ρ (px p 1) = nI i)
theorem m_may_t {p i : Nat} (σ : ts_S) (hp : p < 6) (hi : i < 8) (h : S_may (σ 6 1) p i) : F_X5_mayCross [.inr (.inr (.inl (6, 0))), .inl (nI p), .inl (nI i)] σ = some (some (.inl (nI 1)), σ) := by
  rw [e_X5_mayCross, m_personIs σ hp (by omega), bi_s, m_sillIs σ hi (by omega), bi_s, if_pos h.1]
  rcases h.2 with e | e
  · rw [if_pos e]
  · by_cases q : σ 6 1 (px p 1) = -1
    · rw [if_pos q]
    · rw [if_neg q, if_pos e]
theorem m_may_f {p i : Nat} (σ : ts_S) (hp : p < 6) (hi : i < 8) (h : ¬ S_may (σ 6 1) p i) : F_X5_mayCross [.inr (.inr (.inl (6, 0))), .inl (nI p), .inl (nI i)] σ = some (some (.inl (nI 0)), σ) := by
  rw [e_X5_mayCross, m_personIs σ hp (by omega), bi_s, m_sillIs σ hi (by omega), bi_s]
  by_cases h1 : σ 6 1 (sx i 2) = nI 0
  · rw [if_pos h1]
    by_cases q : σ 6 1 (px p 1) = -1
    · exact absurd ⟨h1, Or.inl q⟩ h
    · rw [if_neg q]
      by_cases q2 : σ 6 1 (px p 1) = nI i
      · exact absurd ⟨h1, Or.inr q2⟩ h
      · rw [if_neg q2]
  · rw [if_neg h1]
theorem S_hd_le (k : Int32) : ∃ h, h ≤ 5 ∧ S_hd k = nI h := by
  unfold S_hd
  repeat' split
  all_goals first | exact ⟨4, by omega, rfl⟩ | exact ⟨5, by omega, rfl⟩ | exact ⟨2, by omega, rfl⟩ | exact ⟨3, by omega, rfl⟩ | exact ⟨0, by omega, rfl⟩
/-- what one who goes in takes along, and the row then -/
def S_in (ρ : Nat → Int32) (p i : Nat) : Int32 × (Nat → Int32) :=
  if S_takes ρ i (ρ (px p 0)) = -1 then (-1, upd ρ (px p 1) (nI i)) else
  (S_takes ρ i (ρ (px p 0)), if S_hd (ρ (sx i 0)) ≤ ρ (sx i 3)
    then upd (upd (upd ρ (px p 1) (nI i)) (px p 0) (ρ (px p 0) &&& ((nI 1 <<< (S_takes ρ i (ρ (px p 0)) &&& nI 31)) ^^^ (-1)))) 4 (S_mo (ρ 4) (nI 99999))
    else S_lay (upd (upd ρ (px p 1) (nI i)) (px p 0) (ρ (px p 0) &&& ((nI 1 <<< (S_takes ρ i (ρ (px p 0)) &&& nI 31)) ^^^ (-1)))) i (S_takes ρ i (ρ (px p 0))))
theorem okS_upd {ρ : Nat → Int32} {i a : Nat} {v : Int32} (h : okS ρ i) (ha : ¬ sx i 3 = a) : okS (upd ρ a v) i := ⟨h.1, by rw [upd_ne _ _ ha]; exact h.2⟩
theorem nK_upd {ρ : Nat → Int32} {i a : Nat} {v : Int32} (ha : ¬ sx i 3 = a) : nK (upd ρ a v) i = nK ρ i := by unfold nK; rw [upd_ne _ _ ha]
theorem m_goesIn {p i : Nat} (σ : ts_S) (hp : p < 6) (h : okS (σ 6 1) i) : F_X5_goesIn [.inr (.inr (.inl (6, 0))), .inl (nI p), .inl (nI i)] σ = some (some (.inl (S_in (σ 6 1) p i).1), mr σ (S_in (σ 6 1) p i).2) := by
  have hi := h.1
  obtain ⟨h1, h2⟩ := okS_k h
  have q1 : px p 1 < 111 := by unfold px; omega
  have q0 : px p 0 < 111 := by unfold px; omega
  have n1 : ¬ px p 0 = px p 1 := by unfold px; omega
  have n2 : ¬ sx i 3 = px p 1 := by unfold px sx; omega
  have n3 : ¬ sx i 3 = px p 0 := by unfold px sx; omega
  have n4 : ¬ sx i 0 = px p 1 := by unfold px sx; omega
  have n5 : ¬ sx i 0 = px p 0 := by unfold px sx; omega
  have n6 : ¬ 4 = px p 1 := by unfold px; omega
  have n7 : ¬ 4 = px p 0 := by unfold px; omega
  rw [e_X5_goesIn, m_personIs σ hp (by omega), bi_s, m_takesOf _ σ h, bi_s, m_personAt, bi_s, ck_n _ q1 (by omega), nw_s, nI_clamp (by omega), mr_up]
  unfold S_in
  rcases S_tk_or (σ 6 1 (sx i 0)) (σ 6 1 (px p 0)) (S_set (σ 6 1) i) with e | ⟨w, hw, e⟩
  · have e : S_takes (σ 6 1) i (σ 6 1 (px p 0)) = -1 := e
    rw [e, if_pos m1lt, if_pos rfl]
  · have e : S_takes (σ 6 1) i (σ 6 1 (px p 0)) = nI w := e
    rw [e, if_neg (nn (by omega)), if_neg (nm (by omega)), m_personAt, bi_s, ck_n _ q0 (by omega), ck_n _ q0 (by omega), nw_s, nI_clamp (by omega), mr_up, mr_rd, mr_mr, m_sillIs _ hi (by omega), bi_s, m_holds _ hi, bi_s, mr_rd, upd_ne _ _ n1, upd_ne _ _ n3, upd_ne _ _ n2, upd_ne _ _ n5, upd_ne _ _ n4]
    by_cases q : S_hd (σ 6 1 (sx i 0)) ≤ σ 6 1 (sx i 3)
    · rw [if_pos q, if_pos q, m_more _ _ (by omega), bv_s, mr_rd, mr_mr, upd_ne _ _ n7, upd_ne _ _ n6]
    · rw [if_neg q, if_neg q, m_lays _ _ (okS_upd (okS_upd h n2) n3) ?_, bi_s, mr_rd, mr_mr]
      rw [mr_rd, nK_upd n3, nK_upd n2]
      obtain ⟨hh, hh1, hh2⟩ := S_hd_le (σ 6 1 (sx i 0))
      rw [hh2, h1] at q
      have := Int32.not_le.mp q
      have := (nI_ltI (by omega) (by omega)).mp this
      omega
/-- words from place j on step up, t of them -/
def S_sh (ρ : Nat → Int32) (i j t : Nat) : Nat → Int32 := fun a => if sx i (4 + j) ≤ a ∧ a < sx i (4 + j + t) then ρ (a + 1) else ρ a
theorem S_sh_0 (ρ : Nat → Int32) (i j : Nat) : S_sh ρ i j 0 = ρ := by
  funext a
  unfold S_sh sx
  rw [if_neg (by omega)]
theorem S_sh_s (ρ : Nat → Int32) (i j t : Nat) : upd (S_sh ρ i j t) (sx i (4 + (j + t))) (ρ (sx i (4 + (j + t) + 1))) = S_sh ρ i j (t + 1) := by
  funext a
  unfold upd S_sh sx
  by_cases h : a = 21 + 9 * i + (4 + (j + t))
  · rw [if_pos h, if_pos (by omega), h]
    congr 1
  · rw [if_neg h]
    by_cases h2 : 21 + 9 * i + (4 + j) ≤ a ∧ a < 21 + 9 * i + (4 + j + t)
    · rw [if_pos h2, if_pos (by omega)]
    · rw [if_neg h2, if_neg (by omega)]
theorem S_sh_out (ρ : Nat → Int32) {i j t a : Nat} (h : a < sx i (4 + j) ∨ sx i (4 + j + t) ≤ a) : S_sh ρ i j t a = ρ a := by
  unfold S_sh
  rw [if_neg (by omega)]
/-- behind the words' stepping up -/
def S_oz (ρ : Nat → Int32) (p i : Nat) (w : Int32) : Nat → Int32 :=
  if S_bit (ρ (px p 0)) w = nI 1 then upd (upd ρ (sx i 3) (ρ (sx i 3) - nI 1)) 4 (S_mo (ρ 4) (nI 99999))
  else upd (upd ρ (sx i 3) (ρ (sx i 3) - nI 1)) (px p 0) (ρ (px p 0) ||| (nI 1 <<< (w &&& nI 31)))
theorem m_out_loop {p i j : Nat} (w : Int32) (hp : p < 6) (hj : j < 5) : ∀ (n t : Nat) (σ : ts_S) (ρ : Nat → Int32), okS ρ i → j < nK ρ i → j + t + n = nK ρ i - 1 → σ 6 1 = S_sh ρ i j t → H_X5_comesOut_31 (nI p) (nI i) (nI j) w (nI (j + t)) σ = some (some (.inl w), mr σ (S_oz (S_sh ρ i j (nK ρ i - 1 - j)) p i w))
  | 0, t, σ, ρ, h, hk, e, hσ => by
    have hi := h.1
    obtain ⟨h1, h2⟩ := okS_k h
    have q0 : px p 0 < 111 := by unfold px; omega
    have q3 : sx i 3 < 111 := by unfold sx; omega
    have n3 : ¬ px p 0 = sx i 3 := by unfold px sx; omega
    have n4 : ¬ 4 = sx i 3 := by unfold sx; omega
    have et : nK ρ i - 1 - j = t := by omega
    have z3 : S_sh ρ i j t (sx i 3) = nI (nK ρ i) := by rw [S_sh_out ρ (by unfold sx; omega), h1]
    obtain ⟨m, hm⟩ : ∃ m, nK ρ i = m + 1 := ⟨nK ρ i - 1, by omega⟩
    have hb : ∀ x y : Int32, ((x >>> (y &&& nI 31)) &&& nI 1) = S_bit x y := fun _ _ => rfl
    rw [h_X5_comesOut_31, m_sillIs σ hi (by omega), bi_s, hσ, z3, hm, nI_m1', if_pos (nI_le (by omega) (by omega)), m_sillAt, bi_s, ck_n _ q3 (by omega), ck_n _ q3 (by omega), nw_s, nI_clamp (by omega), mr_up, m_personIs _ hp (by omega), bi_s, hb, mr_rd, upd_ne _ _ n3, hσ, ← hm, et]
    unfold S_oz
    by_cases q : S_bit (S_sh ρ i j t (px p 0)) w = nI 1
    · rw [if_pos q, if_pos q, m_more _ _ (by omega), bv_s, mr_rd, mr_mr, upd_ne _ _ n4]
    · rw [if_neg q, if_neg q, m_personAt, bi_s, ck_n _ q0 (by omega), ck_n _ q0 (by omega), nw_s, nI_clamp (by omega), mr_up, mr_rd, mr_mr, upd_ne _ _ n3]
  | n + 1, t, σ, ρ, h, hk, e, hσ => by
    have hi := h.1
    obtain ⟨h1, h2⟩ := okS_k h
    have z3 : S_sh ρ i j t (sx i 3) = nI (nK ρ i) := by rw [S_sh_out ρ (by unfold sx; omega), h1]
    obtain ⟨m, hm⟩ : ∃ m, nK ρ i = m + 1 := ⟨nK ρ i - 1, by omega⟩
    have q1 : sx i (4 + (j + t)) < 111 := by unfold sx; omega
    have z4 : S_sh ρ i j t (sx i (4 + (j + t) + 1)) = ρ (sx i (4 + (j + t) + 1)) := S_sh_out ρ (by unfold sx; omega)
    rw [h_X5_comesOut_31, m_sillIs σ hi (by omega), bi_s, hσ, z3, hm, nI_m1', if_neg (nI_ge (by omega) (by omega)), nI_add, m_sillAt, bi_s, nI_add, m_sillIs _ hi (by omega), bi_s, ck_n _ q1 (by omega), nw_s, nI_clamp (by omega), mr_up, hσ, z4, S_sh_s, nI_add, ← hm]
    rw [show j + t + 1 = j + (t + 1) by omega, m_out_loop w hp hj n (t + 1) _ ρ h hk (by omega) (mr_rd _ _), mr_mr]
/-- what one who comes out is given, and the row then -/
def S_out (ρ : Nat → Int32) (p i : Nat) : Int32 × (Nat → Int32) :=
  if S_from ρ i = -1 then (-1, upd ρ (px p 1) (-1)) else
  (S_gives ρ i, S_oz (S_sh (upd ρ (px p 1) (-1)) i (S_from ρ i).toNatClampNeg (nK ρ i - 1 - (S_from ρ i).toNatClampNeg)) p i (S_gives ρ i))
theorem m_comesOut {p i : Nat} (σ : ts_S) (hp : p < 6) (h : okS (σ 6 1) i) : F_X5_comesOut [.inr (.inr (.inl (6, 0))), .inl (nI p), .inl (nI i)] σ = some (some (.inl (S_out (σ 6 1) p i).1), mr σ (S_out (σ 6 1) p i).2) := by
  have hi := h.1
  obtain ⟨h1, h2⟩ := okS_k h
  have q1 : px p 1 < 111 := by unfold px; omega
  have n2 : ¬ sx i 3 = px p 1 := by unfold px sx; omega
  rw [e_X5_comesOut, m_givesFrom σ h, bi_s, m_gives σ h, bi_s, m_personAt, bi_s, ck_n _ q1 (by omega), nw_s, nI_clamp (by omega), mr_up]
  unfold S_out
  rcases S_from_or (σ 6 1) i with e | ⟨j, hj, e⟩
  · rw [e, if_pos m1lt, if_pos rfl]
    have e2 : S_gives (σ 6 1) i = -1 := by unfold S_gives; rw [if_pos e]
    rw [e2]
  · rw [e, if_neg (nn (by omega)), if_neg (nm (by omega)), nI_clamp (by omega)]
    have := m_out_loop (p := p) (i := i) (j := j) (S_gives (σ 6 1) i) hp (by omega) (nK (σ 6 1) i - 1 - j) 0 (mr σ (upd (σ 6 1) (px p 1) (-1))) (upd (σ 6 1) (px p 1) (-1)) (okS_upd h n2) (by rw [nK_upd n2]; exact hj) (by rw [nK_upd n2]; omega) (by rw [mr_rd, S_sh_0])
    rw [nK_upd n2, mr_mr] at this
    exact this
/-- the numbers of crossings grow -/
def S_cz (ρ : Nat → Int32) (p i : Nat) : Nat → Int32 := upd (upd ρ (sx i 1) (S_mo (ρ (sx i 1)) (nI 9999))) (px p 2) (S_mo (ρ (px p 2)) (nI 9999))
def S_cr (ρ : Nat → Int32) (p i : Nat) : Int32 × (Nat → Int32) := if ρ (px p 1) = -1 then ((S_in ρ p i).1, S_cz (S_in ρ p i).2 p i) else ((S_out ρ p i).1, S_cz (S_out ρ p i).2 p i)
theorem m_crosses {p i : Nat} (σ : ts_S) (hp : p < 6) (h : okS (σ 6 1) i) : F_X5_crosses [.inr (.inr (.inl (6, 0))), .inl (nI p), .inl (nI i)] σ = some (some (.inl (S_cr (σ 6 1) p i).1), mr σ (S_cr (σ 6 1) p i).2) := by
  have hi := h.1
  have q1 : sx i 1 < 111 := by unfold sx; omega
  have q2 : px p 2 < 111 := by unfold px; omega
  have n1 : ¬ px p 2 = sx i 1 := by unfold px sx; omega
  rw [e_X5_crosses, m_personIs σ hp (by omega), bi_s]
  unfold S_cr
  by_cases e : σ 6 1 (px p 1) = -1
  · rw [if_pos e, if_pos e, m_goesIn σ hp h, bi_s, m_sillAt, bi_s, m_more _ _ q1, bv_s, m_personAt, bi_s, m_more _ _ q2, bv_s, mr_rd, mr_mr, mr_rd, mr_mr, upd_ne _ _ n1]; rfl
  · rw [if_neg e, if_neg e, m_comesOut σ hp h, bi_s, m_sillAt, bi_s, m_more _ _ q1, bv_s, m_personAt, bi_s, m_more _ _ q2, bv_s, mr_rd, mr_mr, mr_rd, mr_mr, upd_ne _ _ n1]; rfl
def nS (ρ : Nat → Int32) : Nat := (ρ 1).toNatClampNeg
def nP (ρ : Nat → Int32) : Nat := (ρ 3).toNatClampNeg
theorem m_isSill_t {a : Int32} (σ : ts_S) (h : nI 0 ≤ a ∧ a ≤ σ 6 1 1 - nI 1) : F_X5_isSill [.inr (.inr (.inl (6, 0))), .inl a] σ = some (some (.inl (nI 1)), σ) := by
  rw [e_X5_isSill, ck_n _ (by omega) (by omega), mwithin_t σ h, bi_s, if_pos (Or.inr rfl)]
theorem m_isSill_f {a : Int32} (σ : ts_S) (h : ¬ (nI 0 ≤ a ∧ a ≤ σ 6 1 1 - nI 1)) : F_X5_isSill [.inr (.inr (.inl (6, 0))), .inl a] σ = some (some (.inl (nI 0)), σ) := by
  rw [e_X5_isSill, ck_n _ (by omega) (by omega), mwithin_f σ h, bi_s, if_pos (Or.inl rfl)]
theorem m_isPerson_t {a : Int32} (σ : ts_S) (h : nI 0 ≤ a ∧ a ≤ σ 6 1 3 - nI 1) : F_X5_isPerson [.inr (.inr (.inl (6, 0))), .inl a] σ = some (some (.inl (nI 1)), σ) := by
  rw [e_X5_isPerson, ck_n _ (by omega) (by omega), mwithin_t σ h, bi_s, if_pos (Or.inr rfl)]
theorem m_isPerson_f {a : Int32} (σ : ts_S) (h : ¬ (nI 0 ≤ a ∧ a ≤ σ 6 1 3 - nI 1)) : F_X5_isPerson [.inr (.inr (.inl (6, 0))), .inl a] σ = some (some (.inl (nI 0)), σ) := by
  rw [e_X5_isPerson, ck_n _ (by omega) (by omega), mwithin_f σ h, bi_s, if_pos (Or.inl rfl)]
/-- up to one less is below -/
theorem le_pred {a : Int32} {n : Nat} (hn : n < 2 ^ 31) : (nI 0 ≤ a ∧ a ≤ nI n - nI 1) ↔ (nI 0 ≤ a ∧ a < nI n) := by
  cases n with
  | zero =>
    have e : nI 0 - nI 1 = -1 := by decide
    rw [e]
    constructor
    · intro h
      exact absurd (Int32.le_trans h.1 h.2) m1ge
    · intro h
      exact absurd h.2 (Int32.not_lt.mpr h.1)
  | succ n =>
    rw [nI_m1']
    constructor
    · intro h
      obtain ⟨j, hj, rfl⟩ := in_ofw (by omega) h
      exact ⟨h.1, nI_lt (by omega) (by omega)⟩
    · intro h
      obtain ⟨j, hj, rfl⟩ := in_of (by omega) h
      exact ⟨h.1, nI_le (by omega) (by omega)⟩
end
