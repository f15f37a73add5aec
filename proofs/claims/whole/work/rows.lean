section
-- ===== PART A: goes FIRST, ahead of the names: the tables' words, and 'selects' of the private methods out of them =====
/-- a private method of a class that the tables say can be made, by its rows of tables_1 -/
def lw_okq (q : MethodName × Nat) : Prop := (q.1.cls ≠ "java/lang/invoke/MethodHandle" ∧ q.1.cls ≠ "java/lang/invoke/VarHandle") ∧ Cond.instantiable q.1.cls q.2 ∈ tables_1 ∧ Cond.privateMethod q.1 ∈ tables_1 ∧ Cond.instanceMethod q.1 ∈ tables_1
theorem lw_p0 : lw_okq (⟨"TollSills", "tell", "(I)I"⟩, 7) := ⟨⟨by decide +kernel, by decide +kernel⟩, List.mem_of_getElem? (i := 15) (by decide +kernel), List.mem_of_getElem? (i := 169) (by decide +kernel), List.mem_of_getElem? (i := 170) (by decide +kernel)⟩
theorem lw_p1 : lw_okq (⟨"TollSills$Quarter", "placeGiven", "(I)I"⟩, 15) := ⟨⟨by decide +kernel, by decide +kernel⟩, List.mem_of_getElem? (i := 23) (by decide +kernel), List.mem_of_getElem? (i := 217) (by decide +kernel), List.mem_of_getElem? (i := 218) (by decide +kernel)⟩
theorem lw_p2 : lw_okq (⟨"TollSills$Quarter", "goIn", "(II)I"⟩, 15) := ⟨⟨by decide +kernel, by decide +kernel⟩, List.mem_of_getElem? (i := 23) (by decide +kernel), List.mem_of_getElem? (i := 293) (by decide +kernel), List.mem_of_getElem? (i := 294) (by decide +kernel)⟩
theorem lw_p3 : lw_okq (⟨"TollSills$Quarter", "loseWord", "()V"⟩, 15) := ⟨⟨by decide +kernel, by decide +kernel⟩, List.mem_of_getElem? (i := 23) (by decide +kernel), List.mem_of_getElem? (i := 299) (by decide +kernel), List.mem_of_getElem? (i := 300) (by decide +kernel)⟩
theorem lw_p4 : lw_okq (⟨"TollSills$Quarter", "comeOut", "(II)I"⟩, 15) := ⟨⟨by decide +kernel, by decide +kernel⟩, List.mem_of_getElem? (i := 23) (by decide +kernel), List.mem_of_getElem? (i := 307) (by decide +kernel), List.mem_of_getElem? (i := 308) (by decide +kernel)⟩
theorem lw_p5 : lw_okq (⟨"TollSills$Quarter", "dropKept", "(II)V"⟩, 15) := ⟨⟨by decide +kernel, by decide +kernel⟩, List.mem_of_getElem? (i := 23) (by decide +kernel), List.mem_of_getElem? (i := 311) (by decide +kernel), List.mem_of_getElem? (i := 312) (by decide +kernel)⟩
theorem lw_p6 : lw_okq (⟨"TollSills", "beginTrial", "()V"⟩, 7) := ⟨⟨by decide +kernel, by decide +kernel⟩, List.mem_of_getElem? (i := 15) (by decide +kernel), List.mem_of_getElem? (i := 368) (by decide +kernel), List.mem_of_getElem? (i := 369) (by decide +kernel)⟩
theorem lw_p7 : lw_okq (⟨"TollSills", "hasWhenMended", "(IIII)Z"⟩, 7) := ⟨⟨by decide +kernel, by decide +kernel⟩, List.mem_of_getElem? (i := 15) (by decide +kernel), List.mem_of_getElem? (i := 419) (by decide +kernel), List.mem_of_getElem? (i := 420) (by decide +kernel)⟩
theorem lw_p8 : lw_okq (⟨"TollSills", "hasAsTold", "(II)Z"⟩, 7) := ⟨⟨by decide +kernel, by decide +kernel⟩, List.mem_of_getElem? (i := 15) (by decide +kernel), List.mem_of_getElem? (i := 436) (by decide +kernel), List.mem_of_getElem? (i := 437) (by decide +kernel)⟩
theorem lw_p9 : lw_okq (⟨"TollSills", "keepsAsTold", "(II)Z"⟩, 7) := ⟨⟨by decide +kernel, by decide +kernel⟩, List.mem_of_getElem? (i := 15) (by decide +kernel), List.mem_of_getElem? (i := 452) (by decide +kernel), List.mem_of_getElem? (i := 453) (by decide +kernel)⟩
theorem lw_p10 : lw_okq (⟨"TollSills$Tape", "readToken", "()V"⟩, 6) := ⟨⟨by decide +kernel, by decide +kernel⟩, List.mem_of_getElem? (i := 96) (by decide +kernel), List.mem_of_getElem? (i := 499) (by decide +kernel), List.mem_of_getElem? (i := 500) (by decide +kernel)⟩
theorem lw_p11 : lw_okq (⟨"TollSills$Tape", "readItem", "(LTollSills$Quarter;)Z"⟩, 6) := ⟨⟨by decide +kernel, by decide +kernel⟩, List.mem_of_getElem? (i := 96) (by decide +kernel), List.mem_of_getElem? (i := 510) (by decide +kernel), List.mem_of_getElem? (i := 511) (by decide +kernel)⟩
theorem lw_p12 : lw_okq (⟨"TollSills$Tape", "readPerson", "(LTollSills$Quarter;)Z"⟩, 6) := ⟨⟨by decide +kernel, by decide +kernel⟩, List.mem_of_getElem? (i := 96) (by decide +kernel), List.mem_of_getElem? (i := 567) (by decide +kernel), List.mem_of_getElem? (i := 568) (by decide +kernel)⟩
theorem lw_p13 : lw_okq (⟨"TollSills$Tape", "isNumber", "(I)Z"⟩, 6) := ⟨⟨by decide +kernel, by decide +kernel⟩, List.mem_of_getElem? (i := 96) (by decide +kernel), List.mem_of_getElem? (i := 573) (by decide +kernel), List.mem_of_getElem? (i := 574) (by decide +kernel)⟩
theorem lw_p14 : lw_okq (⟨"TollSills$Tape", "readCrossing", "(LTollSills$Quarter;)Z"⟩, 6) := ⟨⟨by decide +kernel, by decide +kernel⟩, List.mem_of_getElem? (i := 96) (by decide +kernel), List.mem_of_getElem? (i := 579) (by decide +kernel), List.mem_of_getElem? (i := 580) (by decide +kernel)⟩
theorem lw_p15 : lw_okq (⟨"TollSills$Tape", "readSill", "(LTollSills$Quarter;I)Z"⟩, 6) := ⟨⟨by decide +kernel, by decide +kernel⟩, List.mem_of_getElem? (i := 96) (by decide +kernel), List.mem_of_getElem? (i := 597) (by decide +kernel), List.mem_of_getElem? (i := 598) (by decide +kernel)⟩
def lw_privs_1 : List (MethodName × Nat) := [(⟨"TollSills", "tell", "(I)I"⟩, 7), (⟨"TollSills$Quarter", "placeGiven", "(I)I"⟩, 15), (⟨"TollSills$Quarter", "goIn", "(II)I"⟩, 15), (⟨"TollSills$Quarter", "loseWord", "()V"⟩, 15), (⟨"TollSills$Quarter", "comeOut", "(II)I"⟩, 15), (⟨"TollSills$Quarter", "dropKept", "(II)V"⟩, 15), (⟨"TollSills", "beginTrial", "()V"⟩, 7), (⟨"TollSills", "hasWhenMended", "(IIII)Z"⟩, 7), (⟨"TollSills", "hasAsTold", "(II)Z"⟩, 7), (⟨"TollSills", "keepsAsTold", "(II)Z"⟩, 7), (⟨"TollSills$Tape", "readToken", "()V"⟩, 6), (⟨"TollSills$Tape", "readItem", "(LTollSills$Quarter;)Z"⟩, 6), (⟨"TollSills$Tape", "readPerson", "(LTollSills$Quarter;)Z"⟩, 6), (⟨"TollSills$Tape", "isNumber", "(I)Z"⟩, 6), (⟨"TollSills$Tape", "readCrossing", "(LTollSills$Quarter;)Z"⟩, 6), (⟨"TollSills$Tape", "readSill", "(LTollSills$Quarter;I)Z"⟩, 6)]
theorem lw_r1 : ∀ q ∈ lw_privs_1, lw_okq q := List.forall_mem_cons.mpr ⟨lw_p0, List.forall_mem_cons.mpr ⟨lw_p1, List.forall_mem_cons.mpr ⟨lw_p2, List.forall_mem_cons.mpr ⟨lw_p3, List.forall_mem_cons.mpr ⟨lw_p4, List.forall_mem_cons.mpr ⟨lw_p5, List.forall_mem_cons.mpr ⟨lw_p6, List.forall_mem_cons.mpr ⟨lw_p7, List.forall_mem_cons.mpr ⟨lw_p8, List.forall_mem_cons.mpr ⟨lw_p9, List.forall_mem_cons.mpr ⟨lw_p10, List.forall_mem_cons.mpr ⟨lw_p11, List.forall_mem_cons.mpr ⟨lw_p12, List.forall_mem_cons.mpr ⟨lw_p13, List.forall_mem_cons.mpr ⟨lw_p14, List.forall_mem_cons.mpr ⟨lw_p15, fun _ h => absurd h List.not_mem_nil⟩⟩⟩⟩⟩⟩⟩⟩⟩⟩⟩⟩⟩⟩⟩⟩
theorem lw_p16 : lw_okq (⟨"TollSills$Tape", "readKept", "(LTollSills$Quarter;I)Z"⟩, 6) := ⟨⟨by decide +kernel, by decide +kernel⟩, List.mem_of_getElem? (i := 96) (by decide +kernel), List.mem_of_getElem? (i := 603) (by decide +kernel), List.mem_of_getElem? (i := 604) (by decide +kernel)⟩
theorem lw_p17 : lw_okq (⟨"TollSillsModel", "become", "(II)I"⟩, 21) := ⟨⟨by decide +kernel, by decide +kernel⟩, List.mem_of_getElem? (i := 690) (by decide +kernel), List.mem_of_getElem? (i := 779) (by decide +kernel), List.mem_of_getElem? (i := 780) (by decide +kernel)⟩
theorem lw_p18 : lw_okq (⟨"TollSillsModel", "finding", "(I)I"⟩, 21) := ⟨⟨by decide +kernel, by decide +kernel⟩, List.mem_of_getElem? (i := 690) (by decide +kernel), List.mem_of_getElem? (i := 784) (by decide +kernel), List.mem_of_getElem? (i := 785) (by decide +kernel)⟩
theorem lw_p19 : lw_okq (⟨"TollSillsModel", "comes", "(I)I"⟩, 21) := ⟨⟨by decide +kernel, by decide +kernel⟩, List.mem_of_getElem? (i := 690) (by decide +kernel), List.mem_of_getElem? (i := 800) (by decide +kernel), List.mem_of_getElem? (i := 801) (by decide +kernel)⟩
theorem lw_p20 : lw_okq (⟨"TollSillsModel", "onePersonMore", "(I)I"⟩, 21) := ⟨⟨by decide +kernel, by decide +kernel⟩, List.mem_of_getElem? (i := 690) (by decide +kernel), List.mem_of_getElem? (i := 814) (by decide +kernel), List.mem_of_getElem? (i := 815) (by decide +kernel)⟩
theorem lw_p21 : lw_okq (⟨"TollSillsModel", "isSill", "(I)Z"⟩, 21) := ⟨⟨by decide +kernel, by decide +kernel⟩, List.mem_of_getElem? (i := 690) (by decide +kernel), List.mem_of_getElem? (i := 825) (by decide +kernel), List.mem_of_getElem? (i := 826) (by decide +kernel)⟩
theorem lw_p22 : lw_okq (⟨"TollSillsModel", "told", "(II)I"⟩, 21) := ⟨⟨by decide +kernel, by decide +kernel⟩, List.mem_of_getElem? (i := 690) (by decide +kernel), List.mem_of_getElem? (i := 829) (by decide +kernel), List.mem_of_getElem? (i := 830) (by decide +kernel)⟩
theorem lw_p23 : lw_okq (⟨"TollSillsModel", "sillIs", "(II)I"⟩, 21) := ⟨⟨by decide +kernel, by decide +kernel⟩, List.mem_of_getElem? (i := 690) (by decide +kernel), List.mem_of_getElem? (i := 833) (by decide +kernel), List.mem_of_getElem? (i := 834) (by decide +kernel)⟩
theorem lw_p24 : lw_okq (⟨"TollSillsModel", "holds", "(I)I"⟩, 21) := ⟨⟨by decide +kernel, by decide +kernel⟩, List.mem_of_getElem? (i := 690) (by decide +kernel), List.mem_of_getElem? (i := 837) (by decide +kernel), List.mem_of_getElem? (i := 838) (by decide +kernel)⟩
theorem lw_p25 : lw_okq (⟨"TollSillsModel", "keptSet", "(I)I"⟩, 21) := ⟨⟨by decide +kernel, by decide +kernel⟩, List.mem_of_getElem? (i := 690) (by decide +kernel), List.mem_of_getElem? (i := 841) (by decide +kernel), List.mem_of_getElem? (i := 842) (by decide +kernel)⟩
theorem lw_p26 : lw_okq (⟨"TollSillsModel", "gives", "(I)I"⟩, 21) := ⟨⟨by decide +kernel, by decide +kernel⟩, List.mem_of_getElem? (i := 690) (by decide +kernel), List.mem_of_getElem? (i := 845) (by decide +kernel), List.mem_of_getElem? (i := 846) (by decide +kernel)⟩
theorem lw_p27 : lw_okq (⟨"TollSillsModel", "givesFrom", "(I)I"⟩, 21) := ⟨⟨by decide +kernel, by decide +kernel⟩, List.mem_of_getElem? (i := 690) (by decide +kernel), List.mem_of_getElem? (i := 849) (by decide +kernel), List.mem_of_getElem? (i := 850) (by decide +kernel)⟩
theorem lw_p28 : lw_okq (⟨"TollSillsModel", "lays", "(II)I"⟩, 21) := ⟨⟨by decide +kernel, by decide +kernel⟩, List.mem_of_getElem? (i := 690) (by decide +kernel), List.mem_of_getElem? (i := 869) (by decide +kernel), List.mem_of_getElem? (i := 870) (by decide +kernel)⟩
theorem lw_p29 : lw_okq (⟨"TollSillsModel", "isPerson", "(I)Z"⟩, 21) := ⟨⟨by decide +kernel, by decide +kernel⟩, List.mem_of_getElem? (i := 690) (by decide +kernel), List.mem_of_getElem? (i := 877) (by decide +kernel), List.mem_of_getElem? (i := 878) (by decide +kernel)⟩
theorem lw_p30 : lw_okq (⟨"TollSillsModel", "personIs", "(II)I"⟩, 21) := ⟨⟨by decide +kernel, by decide +kernel⟩, List.mem_of_getElem? (i := 690) (by decide +kernel), List.mem_of_getElem? (i := 881) (by decide +kernel), List.mem_of_getElem? (i := 882) (by decide +kernel)⟩
theorem lw_p31 : lw_okq (⟨"TollSillsModel", "takesOf", "(II)I"⟩, 21) := ⟨⟨by decide +kernel, by decide +kernel⟩, List.mem_of_getElem? (i := 690) (by decide +kernel), List.mem_of_getElem? (i := 893) (by decide +kernel), List.mem_of_getElem? (i := 894) (by decide +kernel)⟩
def lw_privs_2 : List (MethodName × Nat) := [(⟨"TollSills$Tape", "readKept", "(LTollSills$Quarter;I)Z"⟩, 6), (⟨"TollSillsModel", "become", "(II)I"⟩, 21), (⟨"TollSillsModel", "finding", "(I)I"⟩, 21), (⟨"TollSillsModel", "comes", "(I)I"⟩, 21), (⟨"TollSillsModel", "onePersonMore", "(I)I"⟩, 21), (⟨"TollSillsModel", "isSill", "(I)Z"⟩, 21), (⟨"TollSillsModel", "told", "(II)I"⟩, 21), (⟨"TollSillsModel", "sillIs", "(II)I"⟩, 21), (⟨"TollSillsModel", "holds", "(I)I"⟩, 21), (⟨"TollSillsModel", "keptSet", "(I)I"⟩, 21), (⟨"TollSillsModel", "gives", "(I)I"⟩, 21), (⟨"TollSillsModel", "givesFrom", "(I)I"⟩, 21), (⟨"TollSillsModel", "lays", "(II)I"⟩, 21), (⟨"TollSillsModel", "isPerson", "(I)Z"⟩, 21), (⟨"TollSillsModel", "personIs", "(II)I"⟩, 21), (⟨"TollSillsModel", "takesOf", "(II)I"⟩, 21)]
theorem lw_r2 : ∀ q ∈ lw_privs_2, lw_okq q := List.forall_mem_cons.mpr ⟨lw_p16, List.forall_mem_cons.mpr ⟨lw_p17, List.forall_mem_cons.mpr ⟨lw_p18, List.forall_mem_cons.mpr ⟨lw_p19, List.forall_mem_cons.mpr ⟨lw_p20, List.forall_mem_cons.mpr ⟨lw_p21, List.forall_mem_cons.mpr ⟨lw_p22, List.forall_mem_cons.mpr ⟨lw_p23, List.forall_mem_cons.mpr ⟨lw_p24, List.forall_mem_cons.mpr ⟨lw_p25, List.forall_mem_cons.mpr ⟨lw_p26, List.forall_mem_cons.mpr ⟨lw_p27, List.forall_mem_cons.mpr ⟨lw_p28, List.forall_mem_cons.mpr ⟨lw_p29, List.forall_mem_cons.mpr ⟨lw_p30, List.forall_mem_cons.mpr ⟨lw_p31, fun _ h => absurd h List.not_mem_nil⟩⟩⟩⟩⟩⟩⟩⟩⟩⟩⟩⟩⟩⟩⟩⟩
theorem lw_p32 : lw_okq (⟨"TollSillsModel", "orNone", "(I)I"⟩, 21) := ⟨⟨by decide +kernel, by decide +kernel⟩, List.mem_of_getElem? (i := 690) (by decide +kernel), List.mem_of_getElem? (i := 903) (by decide +kernel), List.mem_of_getElem? (i := 904) (by decide +kernel)⟩
theorem lw_p33 : lw_okq (⟨"TollSillsModel", "mayCross", "(II)Z"⟩, 21) := ⟨⟨by decide +kernel, by decide +kernel⟩, List.mem_of_getElem? (i := 690) (by decide +kernel), List.mem_of_getElem? (i := 911) (by decide +kernel), List.mem_of_getElem? (i := 912) (by decide +kernel)⟩
theorem lw_p34 : lw_okq (⟨"TollSillsModel", "crosses", "(II)I"⟩, 21) := ⟨⟨by decide +kernel, by decide +kernel⟩, List.mem_of_getElem? (i := 690) (by decide +kernel), List.mem_of_getElem? (i := 915) (by decide +kernel), List.mem_of_getElem? (i := 916) (by decide +kernel)⟩
theorem lw_p35 : lw_okq (⟨"TollSillsModel", "goesIn", "(II)I"⟩, 21) := ⟨⟨by decide +kernel, by decide +kernel⟩, List.mem_of_getElem? (i := 690) (by decide +kernel), List.mem_of_getElem? (i := 919) (by decide +kernel), List.mem_of_getElem? (i := 920) (by decide +kernel)⟩
theorem lw_p36 : lw_okq (⟨"TollSillsModel", "more", "(III)V"⟩, 21) := ⟨⟨by decide +kernel, by decide +kernel⟩, List.mem_of_getElem? (i := 690) (by decide +kernel), List.mem_of_getElem? (i := 924) (by decide +kernel), List.mem_of_getElem? (i := 925) (by decide +kernel)⟩
theorem lw_p37 : lw_okq (⟨"TollSillsModel", "comesOut", "(II)I"⟩, 21) := ⟨⟨by decide +kernel, by decide +kernel⟩, List.mem_of_getElem? (i := 690) (by decide +kernel), List.mem_of_getElem? (i := 929) (by decide +kernel), List.mem_of_getElem? (i := 930) (by decide +kernel)⟩
theorem lw_p38 : lw_okq (⟨"TollSillsModel", "daysGo", "(I)V"⟩, 21) := ⟨⟨by decide +kernel, by decide +kernel⟩, List.mem_of_getElem? (i := 690) (by decide +kernel), List.mem_of_getElem? (i := 938) (by decide +kernel), List.mem_of_getElem? (i := 939) (by decide +kernel)⟩
theorem lw_p39 : lw_okq (⟨"TollSillsModel", "day", "()V"⟩, 21) := ⟨⟨by decide +kernel, by decide +kernel⟩, List.mem_of_getElem? (i := 690) (by decide +kernel), List.mem_of_getElem? (i := 942) (by decide +kernel), List.mem_of_getElem? (i := 943) (by decide +kernel)⟩
theorem lw_p40 : lw_okq (⟨"TollSillsModel", "placeNow", "()I"⟩, 21) := ⟨⟨by decide +kernel, by decide +kernel⟩, List.mem_of_getElem? (i := 690) (by decide +kernel), List.mem_of_getElem? (i := 946) (by decide +kernel), List.mem_of_getElem? (i := 947) (by decide +kernel)⟩
theorem lw_p41 : lw_okq (⟨"TollSillsModel", "heard", "()I"⟩, 21) := ⟨⟨by decide +kernel, by decide +kernel⟩, List.mem_of_getElem? (i := 690) (by decide +kernel), List.mem_of_getElem? (i := 954) (by decide +kernel), List.mem_of_getElem? (i := 955) (by decide +kernel)⟩
theorem lw_p42 : lw_okq (⟨"TollSillsModel", "allKept", "()I"⟩, 21) := ⟨⟨by decide +kernel, by decide +kernel⟩, List.mem_of_getElem? (i := 690) (by decide +kernel), List.mem_of_getElem? (i := 958) (by decide +kernel), List.mem_of_getElem? (i := 959) (by decide +kernel)⟩
theorem lw_p43 : lw_okq (⟨"TollSillsModel", "inside", "()I"⟩, 21) := ⟨⟨by decide +kernel, by decide +kernel⟩, List.mem_of_getElem? (i := 690) (by decide +kernel), List.mem_of_getElem? (i := 962) (by decide +kernel), List.mem_of_getElem? (i := 963) (by decide +kernel)⟩
theorem lw_p44 : lw_okq (⟨"TollSillsModel", "muteOnes", "()I"⟩, 21) := ⟨⟨by decide +kernel, by decide +kernel⟩, List.mem_of_getElem? (i := 690) (by decide +kernel), List.mem_of_getElem? (i := 966) (by decide +kernel), List.mem_of_getElem? (i := 967) (by decide +kernel)⟩
theorem lw_p45 : lw_okq (⟨"TollSillsModel", "sumOf", "(I)I"⟩, 21) := ⟨⟨by decide +kernel, by decide +kernel⟩, List.mem_of_getElem? (i := 690) (by decide +kernel), List.mem_of_getElem? (i := 970) (by decide +kernel), List.mem_of_getElem? (i := 971) (by decide +kernel)⟩
theorem lw_p46 : lw_okq (⟨"TollSillsModel", "putBack", "(I)I"⟩, 21) := ⟨⟨by decide +kernel, by decide +kernel⟩, List.mem_of_getElem? (i := 690) (by decide +kernel), List.mem_of_getElem? (i := 981) (by decide +kernel), List.mem_of_getElem? (i := 982) (by decide +kernel)⟩
theorem lw_p47 : lw_okq (⟨"TollSillsModel", "behind", "(II)I"⟩, 21) := ⟨⟨by decide +kernel, by decide +kernel⟩, List.mem_of_getElem? (i := 690) (by decide +kernel), List.mem_of_getElem? (i := 989) (by decide +kernel), List.mem_of_getElem? (i := 990) (by decide +kernel)⟩
def lw_privs_3 : List (MethodName × Nat) := [(⟨"TollSillsModel", "orNone", "(I)I"⟩, 21), (⟨"TollSillsModel", "mayCross", "(II)Z"⟩, 21), (⟨"TollSillsModel", "crosses", "(II)I"⟩, 21), (⟨"TollSillsModel", "goesIn", "(II)I"⟩, 21), (⟨"TollSillsModel", "more", "(III)V"⟩, 21), (⟨"TollSillsModel", "comesOut", "(II)I"⟩, 21), (⟨"TollSillsModel", "daysGo", "(I)V"⟩, 21), (⟨"TollSillsModel", "day", "()V"⟩, 21), (⟨"TollSillsModel", "placeNow", "()I"⟩, 21), (⟨"TollSillsModel", "heard", "()I"⟩, 21), (⟨"TollSillsModel", "allKept", "()I"⟩, 21), (⟨"TollSillsModel", "inside", "()I"⟩, 21), (⟨"TollSillsModel", "muteOnes", "()I"⟩, 21), (⟨"TollSillsModel", "sumOf", "(I)I"⟩, 21), (⟨"TollSillsModel", "putBack", "(I)I"⟩, 21), (⟨"TollSillsModel", "behind", "(II)I"⟩, 21)]
theorem lw_r3 : ∀ q ∈ lw_privs_3, lw_okq q := List.forall_mem_cons.mpr ⟨lw_p32, List.forall_mem_cons.mpr ⟨lw_p33, List.forall_mem_cons.mpr ⟨lw_p34, List.forall_mem_cons.mpr ⟨lw_p35, List.forall_mem_cons.mpr ⟨lw_p36, List.forall_mem_cons.mpr ⟨lw_p37, List.forall_mem_cons.mpr ⟨lw_p38, List.forall_mem_cons.mpr ⟨lw_p39, List.forall_mem_cons.mpr ⟨lw_p40, List.forall_mem_cons.mpr ⟨lw_p41, List.forall_mem_cons.mpr ⟨lw_p42, List.forall_mem_cons.mpr ⟨lw_p43, List.forall_mem_cons.mpr ⟨lw_p44, List.forall_mem_cons.mpr ⟨lw_p45, List.forall_mem_cons.mpr ⟨lw_p46, List.forall_mem_cons.mpr ⟨lw_p47, fun _ h => absurd h List.not_mem_nil⟩⟩⟩⟩⟩⟩⟩⟩⟩⟩⟩⟩⟩⟩⟩⟩
theorem lw_p48 : lw_okq (⟨"TollSillsModel", "hasWord", "(II)Z"⟩, 21) := ⟨⟨by decide +kernel, by decide +kernel⟩, List.mem_of_getElem? (i := 690) (by decide +kernel), List.mem_of_getElem? (i := 997) (by decide +kernel), List.mem_of_getElem? (i := 998) (by decide +kernel)⟩
theorem lw_p49 : lw_okq (⟨"TollSillsModel", "daysTo", "(III)I"⟩, 21) := ⟨⟨by decide +kernel, by decide +kernel⟩, List.mem_of_getElem? (i := 690) (by decide +kernel), List.mem_of_getElem? (i := 1005) (by decide +kernel), List.mem_of_getElem? (i := 1006) (by decide +kernel)⟩
theorem lw_p50 : lw_okq (⟨"TollSillsModel", "leastLost", "(IIII)I"⟩, 21) := ⟨⟨by decide +kernel, by decide +kernel⟩, List.mem_of_getElem? (i := 690) (by decide +kernel), List.mem_of_getElem? (i := 1020) (by decide +kernel), List.mem_of_getElem? (i := 1021) (by decide +kernel)⟩
theorem lw_p51 : lw_okq (⟨"TollSillsModel", "staysAway", "(IIII)Z"⟩, 21) := ⟨⟨by decide +kernel, by decide +kernel⟩, List.mem_of_getElem? (i := 690) (by decide +kernel), List.mem_of_getElem? (i := 1040) (by decide +kernel), List.mem_of_getElem? (i := 1041) (by decide +kernel)⟩
theorem lw_p52 : lw_okq (⟨"TollSillsModel", "lacks", "(IZ)I"⟩, 21) := ⟨⟨by decide +kernel, by decide +kernel⟩, List.mem_of_getElem? (i := 690) (by decide +kernel), List.mem_of_getElem? (i := 1052) (by decide +kernel), List.mem_of_getElem? (i := 1053) (by decide +kernel)⟩
theorem lw_p53 : lw_okq (⟨"TollSillsModel", "isSo", "(II)Z"⟩, 21) := ⟨⟨by decide +kernel, by decide +kernel⟩, List.mem_of_getElem? (i := 690) (by decide +kernel), List.mem_of_getElem? (i := 1060) (by decide +kernel), List.mem_of_getElem? (i := 1061) (by decide +kernel)⟩
theorem lw_p54 : lw_okq (⟨"TollSillsModel", "drawn", "()I"⟩, 21) := ⟨⟨by decide +kernel, by decide +kernel⟩, List.mem_of_getElem? (i := 690) (by decide +kernel), List.mem_of_getElem? (i := 1072) (by decide +kernel), List.mem_of_getElem? (i := 1073) (by decide +kernel)⟩
theorem lw_p55 : lw_okq (⟨"TollSillsModel", "token", "()V"⟩, 21) := ⟨⟨by decide +kernel, by decide +kernel⟩, List.mem_of_getElem? (i := 690) (by decide +kernel), List.mem_of_getElem? (i := 1097) (by decide +kernel), List.mem_of_getElem? (i := 1098) (by decide +kernel)⟩
theorem lw_p56 : lw_okq (⟨"TollSillsModel", "byteAt", "(I)I"⟩, 21) := ⟨⟨by decide +kernel, by decide +kernel⟩, List.mem_of_getElem? (i := 690) (by decide +kernel), List.mem_of_getElem? (i := 1101) (by decide +kernel), List.mem_of_getElem? (i := 1102) (by decide +kernel)⟩
theorem lw_p57 : lw_okq (⟨"TollSillsModel", "readItem", "()V"⟩, 21) := ⟨⟨by decide +kernel, by decide +kernel⟩, List.mem_of_getElem? (i := 690) (by decide +kernel), List.mem_of_getElem? (i := 1105) (by decide +kernel), List.mem_of_getElem? (i := 1106) (by decide +kernel)⟩
theorem lw_p58 : lw_okq (⟨"TollSillsModel", "isWord", "(Ljava/lang/String;)Z"⟩, 21) := ⟨⟨by decide +kernel, by decide +kernel⟩, List.mem_of_getElem? (i := 690) (by decide +kernel), List.mem_of_getElem? (i := 1109) (by decide +kernel), List.mem_of_getElem? (i := 1110) (by decide +kernel)⟩
theorem lw_p59 : lw_okq (⟨"TollSillsModel", "readSill", "(II)V"⟩, 21) := ⟨⟨by decide +kernel, by decide +kernel⟩, List.mem_of_getElem? (i := 690) (by decide +kernel), List.mem_of_getElem? (i := 1115) (by decide +kernel), List.mem_of_getElem? (i := 1116) (by decide +kernel)⟩
theorem lw_p60 : lw_okq (⟨"TollSillsModel", "must", "(Z)V"⟩, 21) := ⟨⟨by decide +kernel, by decide +kernel⟩, List.mem_of_getElem? (i := 690) (by decide +kernel), List.mem_of_getElem? (i := 1119) (by decide +kernel), List.mem_of_getElem? (i := 1120) (by decide +kernel)⟩
theorem lw_p61 : lw_okq (⟨"TollSillsModel", "takesWord", "(Ljava/lang/String;)Z"⟩, 21) := ⟨⟨by decide +kernel, by decide +kernel⟩, List.mem_of_getElem? (i := 690) (by decide +kernel), List.mem_of_getElem? (i := 1124) (by decide +kernel), List.mem_of_getElem? (i := 1125) (by decide +kernel)⟩
theorem lw_p62 : lw_okq (⟨"TollSillsModel", "number", "(II)I"⟩, 21) := ⟨⟨by decide +kernel, by decide +kernel⟩, List.mem_of_getElem? (i := 690) (by decide +kernel), List.mem_of_getElem? (i := 1128) (by decide +kernel), List.mem_of_getElem? (i := 1129) (by decide +kernel)⟩
theorem lw_p63 : lw_okq (⟨"TollSillsModel", "readPerson", "(I)V"⟩, 21) := ⟨⟨by decide +kernel, by decide +kernel⟩, List.mem_of_getElem? (i := 690) (by decide +kernel), List.mem_of_getElem? (i := 1134) (by decide +kernel), List.mem_of_getElem? (i := 1135) (by decide +kernel)⟩
def lw_privs_4 : List (MethodName × Nat) := [(⟨"TollSillsModel", "hasWord", "(II)Z"⟩, 21), (⟨"TollSillsModel", "daysTo", "(III)I"⟩, 21), (⟨"TollSillsModel", "leastLost", "(IIII)I"⟩, 21), (⟨"TollSillsModel", "staysAway", "(IIII)Z"⟩, 21), (⟨"TollSillsModel", "lacks", "(IZ)I"⟩, 21), (⟨"TollSillsModel", "isSo", "(II)Z"⟩, 21), (⟨"TollSillsModel", "drawn", "()I"⟩, 21), (⟨"TollSillsModel", "token", "()V"⟩, 21), (⟨"TollSillsModel", "byteAt", "(I)I"⟩, 21), (⟨"TollSillsModel", "readItem", "()V"⟩, 21), (⟨"TollSillsModel", "isWord", "(Ljava/lang/String;)Z"⟩, 21), (⟨"TollSillsModel", "readSill", "(II)V"⟩, 21), (⟨"TollSillsModel", "must", "(Z)V"⟩, 21), (⟨"TollSillsModel", "takesWord", "(Ljava/lang/String;)Z"⟩, 21), (⟨"TollSillsModel", "number", "(II)I"⟩, 21), (⟨"TollSillsModel", "readPerson", "(I)V"⟩, 21)]
theorem lw_r4 : ∀ q ∈ lw_privs_4, lw_okq q := List.forall_mem_cons.mpr ⟨lw_p48, List.forall_mem_cons.mpr ⟨lw_p49, List.forall_mem_cons.mpr ⟨lw_p50, List.forall_mem_cons.mpr ⟨lw_p51, List.forall_mem_cons.mpr ⟨lw_p52, List.forall_mem_cons.mpr ⟨lw_p53, List.forall_mem_cons.mpr ⟨lw_p54, List.forall_mem_cons.mpr ⟨lw_p55, List.forall_mem_cons.mpr ⟨lw_p56, List.forall_mem_cons.mpr ⟨lw_p57, List.forall_mem_cons.mpr ⟨lw_p58, List.forall_mem_cons.mpr ⟨lw_p59, List.forall_mem_cons.mpr ⟨lw_p60, List.forall_mem_cons.mpr ⟨lw_p61, List.forall_mem_cons.mpr ⟨lw_p62, List.forall_mem_cons.mpr ⟨lw_p63, fun _ h => absurd h List.not_mem_nil⟩⟩⟩⟩⟩⟩⟩⟩⟩⟩⟩⟩⟩⟩⟩⟩
theorem lw_p64 : lw_okq (⟨"TollSillsModel", "isToldSo", "(I)V"⟩, 21) := ⟨⟨by decide +kernel, by decide +kernel⟩, List.mem_of_getElem? (i := 690) (by decide +kernel), List.mem_of_getElem? (i := 1141) (by decide +kernel), List.mem_of_getElem? (i := 1142) (by decide +kernel)⟩
def lw_privs_5 : List (MethodName × Nat) := [(⟨"TollSillsModel", "isToldSo", "(I)V"⟩, 21)]
theorem lw_r5 : ∀ q ∈ lw_privs_5, lw_okq q := List.forall_mem_cons.mpr ⟨lw_p64, fun _ h => absurd h List.not_mem_nil⟩
def lw_privs : List (MethodName × Nat) := lw_privs_1 ++ (lw_privs_2 ++ (lw_privs_3 ++ (lw_privs_4 ++ (lw_privs_5))))
def lw_tbl : List Cond := k2_sels lw_privs ++ tables_1
theorem lw_privs_ok : ∀ q ∈ lw_privs, lw_okq q := by
  show ∀ q ∈ lw_privs_1 ++ (lw_privs_2 ++ (lw_privs_3 ++ (lw_privs_4 ++ (lw_privs_5)))), lw_okq q
  exact List.forall_mem_append.mpr ⟨lw_r1, List.forall_mem_append.mpr ⟨lw_r2, List.forall_mem_append.mpr ⟨lw_r3, List.forall_mem_append.mpr ⟨lw_r4, lw_r5⟩⟩⟩⟩
end
section
def RX0 : String := "TollSills$Kinds"
def TX0 : u_T := fun k => match k with
  | _ => ("", "", "", false)
def tyX0 : Nat → FieldType := fun k => match k with
  | _ => .int
abbrev wsX00 : List Cond := u_ws RX0 TX0 0
theorem nmX0 : ∀ a, a < 0 → ∀ b, b < 0 → a ≠ b → (TX0 a).2.1 ≠ (TX0 b).2.1 := by decide +kernel
theorem tyX0_ok : ∀ k, k < 0 → parseFieldDescriptor (TX0 k).2.2.1 = some (tyX0 k) := by decide +kernel
abbrev cX0_isUnder : ByteArray := prog_2_method_2_code
def yX0_isUnder : MethodName := ⟨RX0, "isUnder", "(II)Z"⟩
abbrev cX0_parentOf : ByteArray := prog_2_method_3_code
def yX0_parentOf : MethodName := ⟨RX0, "parentOf", "(I)I"⟩
abbrev cX0_kindNamed : ByteArray := prog_2_method_4_code
def yX0_kindNamed : MethodName := ⟨RX0, "kindNamed", "(LTollSills$Tape;)I"⟩
abbrev cX0_nameOf : ByteArray := prog_2_method_5_code
def yX0_nameOf : MethodName := ⟨RX0, "nameOf", "(I)Ljava/lang/String;"⟩
abbrev cX0_mostHeld : ByteArray := prog_2_method_6_code
def yX0_mostHeld : MethodName := ⟨RX0, "mostHeld", "(I)I"⟩
abbrev cX0_wordTaken : ByteArray := prog_2_method_7_code
def yX0_wordTaken : MethodName := ⟨RX0, "wordTaken", "(III)I"⟩
abbrev cX0_least : ByteArray := prog_2_method_8_code
def yX0_least : MethodName := ⟨RX0, "least", "(I)I"⟩
abbrev cX0_greatest : ByteArray := prog_2_method_9_code
def yX0_greatest : MethodName := ⟨RX0, "greatest", "(I)I"⟩
abbrev cX0_placeGiven : ByteArray := prog_2_method_10_code
def yX0_placeGiven : MethodName := ⟨RX0, "placeGiven", "(III)I"⟩
def RX1 : String := "TollSills$Quarter"
def TX1 : u_T := fun k => match k with
  | 0 => ("TollSills$Quarter", "crossings", "[I", true)
  | 1 => ("TollSills$Quarter", "lost", "I", false)
  | 2 => ("TollSills$Quarter", "day", "I", false)
  | 3 => ("TollSills$Quarter", "z", "I", false)
  | 4 => ("TollSills$Quarter", "sills", "I", false)
  | 5 => ("TollSills$Quarter", "kindOf", "[I", true)
  | 6 => ("TollSills$Quarter", "wearOf", "[I", true)
  | 7 => ("TollSills$Quarter", "mendedOf", "[I", true)
  | 8 => ("TollSills$Quarter", "keptBy", "[I", true)
  | 9 => ("TollSills$Quarter", "kept", "[I", true)
  | 10 => ("TollSills$Quarter", "people", "I", false)
  | 11 => ("TollSills$Quarter", "has", "[I", true)
  | 12 => ("TollSills$Quarter", "in", "[I", true)
  | 13 => ("TollSills$Quarter", "crossed", "[I", true)
  | _ => ("TollSills$Quarter", "spots", "[I", true)
def tyX1 : Nat → FieldType := fun k => match k with
  | 0 => .array .int
  | 1 => .int
  | 2 => .int
  | 3 => .int
  | 4 => .int
  | 5 => .array .int
  | 6 => .array .int
  | 7 => .array .int
  | 8 => .array .int
  | 9 => .array .int
  | 10 => .int
  | 11 => .array .int
  | 12 => .array .int
  | 13 => .array .int
  | _ => .array .int
abbrev wsX10 : List Cond := u_ws RX1 TX1 15
theorem nmX1 : ∀ a, a < 15 → ∀ b, b < 15 → a ≠ b → (TX1 a).2.1 ≠ (TX1 b).2.1 := by decide +kernel
theorem tyX1_ok : ∀ k, k < 15 → parseFieldDescriptor (TX1 k).2.2.1 = some (tyX1 k) := by decide +kernel
abbrev cX1_init : ByteArray := prog_3_method_1_code
def yX1_init : MethodName := ⟨RX1, "<init>", "()V"⟩
abbrev cX1_become : ByteArray := prog_3_method_2_code
def yX1_become : MethodName := ⟨RX1, "become", "(LTollSills$Quarter;)V"⟩
abbrev cX1_isSill : ByteArray := prog_3_method_3_code
def yX1_isSill : MethodName := ⟨RX1, "isSill", "(I)Z"⟩
abbrev cX1_isPerson : ByteArray := prog_3_method_4_code
def yX1_isPerson : MethodName := ⟨RX1, "isPerson", "(I)Z"⟩
abbrev cX1_hasWord : ByteArray := prog_3_method_5_code
def yX1_hasWord : MethodName := ⟨RX1, "hasWord", "(II)Z"⟩
abbrev cX1_addSill : ByteArray := prog_3_method_6_code
def yX1_addSill : MethodName := ⟨RX1, "addSill", "(I)I"⟩
abbrev cX1_addPerson : ByteArray := prog_3_method_7_code
def yX1_addPerson : MethodName := ⟨RX1, "addPerson", "(I)I"⟩
abbrev cX1_keptAt : ByteArray := prog_3_method_8_code
def yX1_keptAt : MethodName := ⟨RX1, "keptAt", "(II)I"⟩
abbrev cX1_keptSet : ByteArray := prog_3_method_9_code
def yX1_keptSet : MethodName := ⟨RX1, "keptSet", "(I)I"⟩
abbrev cX1_keep : ByteArray := prog_3_method_10_code
def yX1_keep : MethodName := ⟨RX1, "keep", "(II)Z"⟩
abbrev cX1_dropKept : ByteArray := prog_3_method_11_code
def yX1_dropKept : MethodName := ⟨RX1, "dropKept", "(II)V"⟩
abbrev cX1_placeGiven : ByteArray := prog_3_method_12_code
def yX1_placeGiven : MethodName := ⟨RX1, "placeGiven", "(I)I"⟩
abbrev cX1_tellSill : ByteArray := prog_3_method_13_code
def yX1_tellSill : MethodName := ⟨RX1, "tellSill", "(II)I"⟩
abbrev cX1_tellPerson : ByteArray := prog_3_method_14_code
def yX1_tellPerson : MethodName := ⟨RX1, "tellPerson", "(II)I"⟩
abbrev cX1_mayCross : ByteArray := prog_3_method_15_code
def yX1_mayCross : MethodName := ⟨RX1, "mayCross", "(II)Z"⟩
abbrev cX1_makeCrossing : ByteArray := prog_3_method_16_code
def yX1_makeCrossing : MethodName := ⟨RX1, "makeCrossing", "(II)I"⟩
abbrev cX1_goIn : ByteArray := prog_3_method_17_code
def yX1_goIn : MethodName := ⟨RX1, "goIn", "(II)I"⟩
abbrev cX1_comeOut : ByteArray := prog_3_method_18_code
def yX1_comeOut : MethodName := ⟨RX1, "comeOut", "(II)I"⟩
abbrev cX1_loseWord : ByteArray := prog_3_method_19_code
def yX1_loseWord : MethodName := ⟨RX1, "loseWord", "()V"⟩
abbrev cX1_placeOfToday : ByteArray := prog_3_method_20_code
def yX1_placeOfToday : MethodName := ⟨RX1, "placeOfToday", "()I"⟩
abbrev cX1_passDays : ByteArray := prog_3_method_21_code
def yX1_passDays : MethodName := ⟨RX1, "passDays", "(I)V"⟩
abbrev cX1_draw : ByteArray := prog_3_method_22_code
def yX1_draw : MethodName := ⟨RX1, "draw", "()I"⟩
abbrev cX1_wordsHad : ByteArray := prog_3_method_23_code
def yX1_wordsHad : MethodName := ⟨RX1, "wordsHad", "()I"⟩
abbrev cX1_wordsKept : ByteArray := prog_3_method_24_code
def yX1_wordsKept : MethodName := ⟨RX1, "wordsKept", "()I"⟩
abbrev cX1_peopleInside : ByteArray := prog_3_method_25_code
def yX1_peopleInside : MethodName := ⟨RX1, "peopleInside", "()I"⟩
abbrev cX1_peopleWithoutWords : ByteArray := prog_3_method_26_code
def yX1_peopleWithoutWords : MethodName := ⟨RX1, "peopleWithoutWords", "()I"⟩
abbrev cX1_wearOfAll : ByteArray := prog_3_method_27_code
def yX1_wearOfAll : MethodName := ⟨RX1, "wearOfAll", "()I"⟩
abbrev cX1_keptInAll : ByteArray := prog_3_method_28_code
def yX1_keptInAll : MethodName := ⟨RX1, "keptInAll", "()I"⟩
abbrev cX1_spotsInUse : ByteArray := prog_3_method_29_code
def yX1_spotsInUse : MethodName := ⟨RX1, "spotsInUse", "()I"⟩
def RX2 : String := "TollSills$Sheets"
def TX2 : u_T := fun k => match k with
  | 0 => ("TollSills$Sheets", "bits", "[I", true)
  | 1 => ("TollSills$Sheets", "sizes", "[I", true)
  | _ => ("TollSills$Sheets", "numbers", "[I", true)
def tyX2 : Nat → FieldType := fun k => match k with
  | 0 => .array .int
  | 1 => .array .int
  | _ => .array .int
abbrev wsX20 : List Cond := u_ws RX2 TX2 3
theorem nmX2 : ∀ a, a < 3 → ∀ b, b < 3 → a ≠ b → (TX2 a).2.1 ≠ (TX2 b).2.1 := by decide +kernel
theorem tyX2_ok : ∀ k, k < 3 → parseFieldDescriptor (TX2 k).2.2.1 = some (tyX2 k) := by decide +kernel
abbrev cX2_init : ByteArray := prog_4_method_1_code
def yX2_init : MethodName := ⟨RX2, "<init>", "()V"⟩
abbrev cX2_isMissing : ByteArray := prog_4_method_2_code
def yX2_isMissing : MethodName := ⟨RX2, "isMissing", "(I)Z"⟩
abbrev cX2_layOut : ByteArray := prog_4_method_3_code
def yX2_layOut : MethodName := ⟨RX2, "layOut", "(III)V"⟩
abbrev cX2_numberAt : ByteArray := prog_4_method_4_code
def yX2_numberAt : MethodName := ⟨RX2, "numberAt", "(II)I"⟩
abbrev cX2_put : ByteArray := prog_4_method_5_code
def yX2_put : MethodName := ⟨RX2, "put", "(III)V"⟩
abbrev cX2_lowestBits : ByteArray := prog_4_method_6_code
def yX2_lowestBits : MethodName := ⟨RX2, "lowestBits", "(II)I"⟩
abbrev cX2_hasRange : ByteArray := prog_4_method_7_code
def yX2_hasRange : MethodName := ⟨RX2, "hasRange", "(III)Z"⟩
abbrev cX2_move : ByteArray := prog_4_method_8_code
def yX2_move : MethodName := ⟨RX2, "move", "(IIIII)V"⟩
abbrev cX2_admits : ByteArray := prog_4_method_9_code
def yX2_admits : MethodName := ⟨RX2, "admits", "(III)Z"⟩
def RX3 : String := "TollSills$Tape"
def TX3 : u_T := fun k => match k with
  | 0 => ("TollSills$Tape", "bytes", "[I", true)
  | 1 => ("TollSills$Tape", "size", "I", false)
  | 2 => ("TollSills$Tape", "token", "I", false)
  | 3 => ("TollSills$Tape", "place", "I", false)
  | 4 => ("TollSills$Tape", "end", "I", false)
  | _ => ("TollSills$Tape", "number", "I", false)
def tyX3 : Nat → FieldType := fun k => match k with
  | 0 => .array .int
  | 1 => .int
  | 2 => .int
  | 3 => .int
  | 4 => .int
  | _ => .int
abbrev wsX30 : List Cond := u_ws RX3 TX3 6
theorem nmX3 : ∀ a, a < 6 → ∀ b, b < 6 → a ≠ b → (TX3 a).2.1 ≠ (TX3 b).2.1 := by decide +kernel
theorem tyX3_ok : ∀ k, k < 6 → parseFieldDescriptor (TX3 k).2.2.1 = some (tyX3 k) := by decide +kernel
abbrev cX3_init : ByteArray := prog_5_method_1_code
def yX3_init : MethodName := ⟨RX3, "<init>", "()V"⟩
abbrev cX3_append : ByteArray := prog_5_method_2_code
def yX3_append : MethodName := ⟨RX3, "append", "(II)Z"⟩
abbrev cX3_readItems : ByteArray := prog_5_method_3_code
def yX3_readItems : MethodName := ⟨RX3, "readItems", "(LTollSills$Quarter;)I"⟩
abbrev cX3_readItem : ByteArray := prog_5_method_4_code
def yX3_readItem : MethodName := ⟨RX3, "readItem", "(LTollSills$Quarter;)Z"⟩
abbrev cX3_readSill : ByteArray := prog_5_method_5_code
def yX3_readSill : MethodName := ⟨RX3, "readSill", "(LTollSills$Quarter;I)Z"⟩
abbrev cX3_readKept : ByteArray := prog_5_method_6_code
def yX3_readKept : MethodName := ⟨RX3, "readKept", "(LTollSills$Quarter;I)Z"⟩
abbrev cX3_readPerson : ByteArray := prog_5_method_7_code
def yX3_readPerson : MethodName := ⟨RX3, "readPerson", "(LTollSills$Quarter;)Z"⟩
abbrev cX3_readCrossing : ByteArray := prog_5_method_8_code
def yX3_readCrossing : MethodName := ⟨RX3, "readCrossing", "(LTollSills$Quarter;)Z"⟩
abbrev cX3_isWord : ByteArray := prog_5_method_9_code
def yX3_isWord : MethodName := ⟨RX3, "isWord", "(Ljava/lang/String;)Z"⟩
abbrev cX3_isNumber : ByteArray := prog_5_method_10_code
def yX3_isNumber : MethodName := ⟨RX3, "isNumber", "(I)Z"⟩
abbrev cX3_readToken : ByteArray := prog_5_method_11_code
def yX3_readToken : MethodName := ⟨RX3, "readToken", "()V"⟩
abbrev cX3_isLetter : ByteArray := prog_5_method_12_code
def yX3_isLetter : MethodName := ⟨RX3, "isLetter", "(I)Z"⟩
abbrev cX3_isDigit : ByteArray := prog_5_method_13_code
def yX3_isDigit : MethodName := ⟨RX3, "isDigit", "(I)Z"⟩
def RX4 : String := "TollSills"
def TX4 : u_T := fun k => match k with
  | 0 => ("TollSills", "quarter", "LTollSills$Quarter;", true)
  | 1 => ("TollSills", "trial", "LTollSills$Quarter;", true)
  | 2 => ("TollSills", "keptImage", "LTollSills$Quarter;", true)
  | 3 => ("TollSills", "imageIsKept", "Z", false)
  | 4 => ("TollSills", "tape", "LTollSills$Tape;", true)
  | 5 => ("TollSills", "sheets", "LTollSills$Sheets;", true)
  | _ => ("TollSills", "found", "[I", true)
def tyX4 : Nat → FieldType := fun k => match k with
  | 0 => .object "TollSills$Quarter"
  | 1 => .object "TollSills$Quarter"
  | 2 => .object "TollSills$Quarter"
  | 3 => .boolean
  | 4 => .object "TollSills$Tape"
  | 5 => .object "TollSills$Sheets"
  | _ => .array .int
abbrev wsX40 : List Cond := u_ws RX4 TX4 7
theorem nmX4 : ∀ a, a < 7 → ∀ b, b < 7 → a ≠ b → (TX4 a).2.1 ≠ (TX4 b).2.1 := by decide +kernel
theorem tyX4_ok : ∀ k, k < 7 → parseFieldDescriptor (TX4 k).2.2.1 = some (tyX4 k) := by decide +kernel
abbrev cX4_init : ByteArray := prog_1_method_1_code
def yX4_init : MethodName := ⟨RX4, "<init>", "()V"⟩
abbrev cX4_list : ByteArray := prog_1_method_2_code
def yX4_list : MethodName := ⟨RX4, "list", "(III)I"⟩
abbrev cX4_listed : ByteArray := prog_1_method_3_code
def yX4_listed : MethodName := ⟨RX4, "listed", "(I)I"⟩
abbrev cX4_sill : ByteArray := prog_1_method_4_code
def yX4_sill : MethodName := ⟨RX4, "sill", "(I)I"⟩
abbrev cX4_person : ByteArray := prog_1_method_5_code
def yX4_person : MethodName := ⟨RX4, "person", "(I)I"⟩
abbrev cX4_of : ByteArray := prog_1_method_6_code
def yX4_of : MethodName := ⟨RX4, "of", "(II)I"⟩
abbrev cX4_word : ByteArray := prog_1_method_7_code
def yX4_word : MethodName := ⟨RX4, "word", "(II)I"⟩
abbrev cX4_change : ByteArray := prog_1_method_8_code
def yX4_change : MethodName := ⟨RX4, "change", "(III)I"⟩
abbrev cX4_lay : ByteArray := prog_1_method_9_code
def yX4_lay : MethodName := ⟨RX4, "lay", "(II)I"⟩
abbrev cX4_ofPerson : ByteArray := prog_1_method_10_code
def yX4_ofPerson : MethodName := ⟨RX4, "ofPerson", "(II)I"⟩
abbrev cX4_send : ByteArray := prog_1_method_11_code
def yX4_send : MethodName := ⟨RX4, "send", "(III)I"⟩
abbrev cX4_takes : ByteArray := prog_1_method_12_code
def yX4_takes : MethodName := ⟨RX4, "takes", "(II)I"⟩
abbrev cX4_cross : ByteArray := prog_1_method_13_code
def yX4_cross : MethodName := ⟨RX4, "cross", "(II)I"⟩
abbrev cX4_go : ByteArray := prog_1_method_14_code
def yX4_go : MethodName := ⟨RX4, "go", "(I)I"⟩
abbrev cX4_now : ByteArray := prog_1_method_15_code
def yX4_now : MethodName := ⟨RX4, "now", "(I)I"⟩
abbrev cX4_ahead : ByteArray := prog_1_method_16_code
def yX4_ahead : MethodName := ⟨RX4, "ahead", "(III)I"⟩
abbrev cX4_later : ByteArray := prog_1_method_17_code
def yX4_later : MethodName := ⟨RX4, "later", "(III)I"⟩
abbrev cX4_hears : ByteArray := prog_1_method_18_code
def yX4_hears : MethodName := ⟨RX4, "hears", "(II)I"⟩
abbrev cX4_waste : ByteArray := prog_1_method_19_code
def yX4_waste : MethodName := ⟨RX4, "waste", "(I)I"⟩
abbrev cX4_mute : ByteArray := prog_1_method_20_code
def yX4_mute : MethodName := ⟨RX4, "mute", "(I)I"⟩
abbrev cX4_sillFor : ByteArray := prog_1_method_21_code
def yX4_sillFor : MethodName := ⟨RX4, "sillFor", "(II)I"⟩
abbrev cX4_kindFor : ByteArray := prog_1_method_22_code
def yX4_kindFor : MethodName := ⟨RX4, "kindFor", "(II)I"⟩
abbrev cX4_wordFor : ByteArray := prog_1_method_23_code
def yX4_wordFor : MethodName := ⟨RX4, "wordFor", "(III)I"⟩
abbrev cX4_mend : ByteArray := prog_1_method_24_code
def yX4_mend : MethodName := ⟨RX4, "mend", "(III)I"⟩
abbrev cX4_seek : ByteArray := prog_1_method_25_code
def yX4_seek : MethodName := ⟨RX4, "seek", "(II)I"⟩
abbrev cX4_fits : ByteArray := prog_1_method_26_code
def yX4_fits : MethodName := ⟨RX4, "fits", "(II)I"⟩
abbrev cX4_kinds : ByteArray := prog_1_method_27_code
def yX4_kinds : MethodName := ⟨RX4, "kinds", "(II)I"⟩
abbrev cX4_stroll : ByteArray := prog_1_method_28_code
def yX4_stroll : MethodName := ⟨RX4, "stroll", "(I)I"⟩
abbrev cX4_odds : ByteArray := prog_1_method_29_code
def yX4_odds : MethodName := ⟨RX4, "odds", "(III)J"⟩
abbrev cX4_seed : ByteArray := prog_1_method_30_code
def yX4_seed : MethodName := ⟨RX4, "seed", "(I)I"⟩
abbrev cX4_feed : ByteArray := prog_1_method_31_code
def yX4_feed : MethodName := ⟨RX4, "feed", "(II)I"⟩
abbrev cX4_wipe : ByteArray := prog_1_method_32_code
def yX4_wipe : MethodName := ⟨RX4, "wipe", "()I"⟩
abbrev cX4_text : ByteArray := prog_1_method_33_code
def yX4_text : MethodName := ⟨RX4, "text", "()I"⟩
abbrev cX4_hold : ByteArray := prog_1_method_34_code
def yX4_hold : MethodName := ⟨RX4, "hold", "(II)I"⟩
abbrev cX4_as : ByteArray := prog_1_method_35_code
def yX4_as : MethodName := ⟨RX4, "as", "(II)I"⟩
abbrev cX4_sheet : ByteArray := prog_1_method_36_code
def yX4_sheet : MethodName := ⟨RX4, "sheet", "(III)I"⟩
abbrev cX4_write : ByteArray := prog_1_method_37_code
def yX4_write : MethodName := ⟨RX4, "write", "(III)I"⟩
abbrev cX4_copy : ByteArray := prog_1_method_38_code
def yX4_copy : MethodName := ⟨RX4, "copy", "(IIIII)I"⟩
abbrev cX4_load : ByteArray := prog_1_method_39_code
def yX4_load : MethodName := ⟨RX4, "load", "(I)I"⟩
abbrev cX4_judge : ByteArray := prog_1_method_40_code
def yX4_judge : MethodName := ⟨RX4, "judge", "(I)I"⟩
abbrev cX4_image : ByteArray := prog_1_method_41_code
def yX4_image : MethodName := ⟨RX4, "image", "()I"⟩
abbrev cX4_undo : ByteArray := prog_1_method_42_code
def yX4_undo : MethodName := ⟨RX4, "undo", "()I"⟩
abbrev cX4_tear : ByteArray := prog_1_method_43_code
def yX4_tear : MethodName := ⟨RX4, "tear", "()I"⟩
abbrev cX4_count : ByteArray := prog_1_method_44_code
def yX4_count : MethodName := ⟨RX4, "count", "(I)I"⟩
abbrev cX4_status : ByteArray := prog_1_method_45_code
def yX4_status : MethodName := ⟨RX4, "status", "(I)I"⟩
abbrev cX4_tell : ByteArray := prog_1_method_46_code
def yX4_tell : MethodName := ⟨RX4, "tell", "(I)I"⟩
abbrev cX4_isWithin : ByteArray := prog_1_method_47_code
def yX4_isWithin : MethodName := ⟨RX4, "isWithin", "(III)Z"⟩
abbrev cX4_isBelow : ByteArray := prog_1_method_48_code
def yX4_isBelow : MethodName := ⟨RX4, "isBelow", "(II)Z"⟩
abbrev cX4_replace : ByteArray := prog_1_method_49_code
def yX4_replace : MethodName := ⟨RX4, "replace", "([III)I"⟩
abbrev cX4_beginTrial : ByteArray := prog_1_method_50_code
def yX4_beginTrial : MethodName := ⟨RX4, "beginTrial", "()V"⟩
abbrev cX4_hasWhenMended : ByteArray := prog_1_method_51_code
def yX4_hasWhenMended : MethodName := ⟨RX4, "hasWhenMended", "(IIII)Z"⟩
abbrev cX4_hasAsTold : ByteArray := prog_1_method_52_code
def yX4_hasAsTold : MethodName := ⟨RX4, "hasAsTold", "(II)Z"⟩
abbrev cX4_keepsAsTold : ByteArray := prog_1_method_53_code
def yX4_keepsAsTold : MethodName := ⟨RX4, "keepsAsTold", "(II)Z"⟩
abbrev cX4_commonDivisor : ByteArray := prog_1_method_54_code
def yX4_commonDivisor : MethodName := ⟨RX4, "commonDivisor", "(II)I"⟩
abbrev cX4_power : ByteArray := prog_1_method_55_code
def yX4_power : MethodName := ⟨RX4, "power", "(II)J"⟩
def RX5 : String := "TollSillsModel"
def TX5 : u_T := fun k => match k with
  | 0 => ("TollSillsModel", "now", "[I", true)
  | 1 => ("TollSillsModel", "kept", "[I", true)
  | 2 => ("TollSillsModel", "aside", "[I", true)
  | 3 => ("TollSillsModel", "isKept", "Z", false)
  | 4 => ("TollSillsModel", "found", "[I", true)
  | 5 => ("TollSillsModel", "tape", "[I", true)
  | 6 => ("TollSillsModel", "taped", "I", false)
  | 7 => ("TollSillsModel", "begins", "I", false)
  | 8 => ("TollSillsModel", "ends", "I", false)
  | 9 => ("TollSillsModel", "sort", "I", false)
  | 10 => ("TollSillsModel", "value", "I", false)
  | 11 => ("TollSillsModel", "isWrong", "Z", false)
  | 12 => ("TollSillsModel", "kindNames", "[Ljava/lang/String;", true)
  | 13 => ("TollSillsModel", "items", "[I", true)
  | 14 => ("TollSillsModel", "itemMany", "I", false)
  | 15 => ("TollSillsModel", "sillsThen", "I", false)
  | 16 => ("TollSillsModel", "peopleThen", "I", false)
  | 17 => ("TollSillsModel", "widths", "[I", true)
  | 18 => ("TollSillsModel", "sizes", "[I", true)
  | 19 => ("TollSillsModel", "numbers", "[I", true)
  | _ => ("TollSillsModel", "moved", "[I", true)
def tyX5 : Nat → FieldType := fun k => match k with
  | 0 => .array .int
  | 1 => .array .int
  | 2 => .array .int
  | 3 => .boolean
  | 4 => .array .int
  | 5 => .array .int
  | 6 => .int
  | 7 => .int
  | 8 => .int
  | 9 => .int
  | 10 => .int
  | 11 => .boolean
  | 12 => .array (.object "java/lang/String")
  | 13 => .array .int
  | 14 => .int
  | 15 => .int
  | 16 => .int
  | 17 => .array .int
  | 18 => .array .int
  | 19 => .array .int
  | _ => .array .int
abbrev wsX50 : List Cond := u_ws RX5 TX5 21
theorem nmX5 : ∀ a, a < 21 → ∀ b, b < 21 → a ≠ b → (TX5 a).2.1 ≠ (TX5 b).2.1 := by decide +kernel
theorem tyX5_ok : ∀ k, k < 21 → parseFieldDescriptor (TX5 k).2.2.1 = some (tyX5 k) := by decide +kernel
abbrev cX5_init : ByteArray := prog_7_method_1_code
def yX5_init : MethodName := ⟨RX5, "<init>", "()V"⟩
abbrev cX5_finding : ByteArray := prog_7_method_2_code
def yX5_finding : MethodName := ⟨RX5, "finding", "(I)I"⟩
abbrev cX5_within : ByteArray := prog_7_method_3_code
def yX5_within : MethodName := ⟨RX5, "within", "(III)Z"⟩
abbrev cX5_become : ByteArray := prog_7_method_4_code
def yX5_become : MethodName := ⟨RX5, "become", "(II)I"⟩
abbrev cX5_copyRow : ByteArray := prog_7_method_5_code
def yX5_copyRow : MethodName := ⟨RX5, "copyRow", "([I[I)V"⟩
abbrev cX5_putBack : ByteArray := prog_7_method_6_code
def yX5_putBack : MethodName := ⟨RX5, "putBack", "(I)I"⟩
abbrev cX5_orNone : ByteArray := prog_7_method_7_code
def yX5_orNone : MethodName := ⟨RX5, "orNone", "(I)I"⟩
abbrev cX5_bits : ByteArray := prog_7_method_8_code
def yX5_bits : MethodName := ⟨RX5, "bits", "(I)I"⟩
abbrev cX5_isSet : ByteArray := prog_7_method_9_code
def yX5_isSet : MethodName := ⟨RX5, "isSet", "(I)Z"⟩
abbrev cX5_isWordNumber : ByteArray := prog_7_method_10_code
def yX5_isWordNumber : MethodName := ⟨RX5, "isWordNumber", "(I)Z"⟩
abbrev cX5_isPlace : ByteArray := prog_7_method_11_code
def yX5_isPlace : MethodName := ⟨RX5, "isPlace", "(I)Z"⟩
abbrev cX5_list : ByteArray := prog_7_method_12_code
def yX5_list : MethodName := ⟨RX5, "list", "(III)I"⟩
abbrev cX5_listed : ByteArray := prog_7_method_13_code
def yX5_listed : MethodName := ⟨RX5, "listed", "(I)I"⟩
abbrev cX5_placeNow : ByteArray := prog_7_method_14_code
def yX5_placeNow : MethodName := ⟨RX5, "placeNow", "()I"⟩
abbrev cX5_sillAt : ByteArray := prog_7_method_15_code
def yX5_sillAt : MethodName := ⟨RX5, "sillAt", "(II)I"⟩
abbrev cX5_sillIs : ByteArray := prog_7_method_16_code
def yX5_sillIs : MethodName := ⟨RX5, "sillIs", "(II)I"⟩
abbrev cX5_isSill : ByteArray := prog_7_method_17_code
def yX5_isSill : MethodName := ⟨RX5, "isSill", "(I)Z"⟩
abbrev cX5_personAt : ByteArray := prog_7_method_18_code
def yX5_personAt : MethodName := ⟨RX5, "personAt", "(II)I"⟩
abbrev cX5_personIs : ByteArray := prog_7_method_19_code
def yX5_personIs : MethodName := ⟨RX5, "personIs", "(II)I"⟩
abbrev cX5_isPerson : ByteArray := prog_7_method_20_code
def yX5_isPerson : MethodName := ⟨RX5, "isPerson", "(I)Z"⟩
abbrev cX5_isKind : ByteArray := prog_7_method_21_code
def yX5_isKind : MethodName := ⟨RX5, "isKind", "(I)Z"⟩
abbrev cX5_comes : ByteArray := prog_7_method_22_code
def yX5_comes : MethodName := ⟨RX5, "comes", "(I)I"⟩
abbrev cX5_sill : ByteArray := prog_7_method_23_code
def yX5_sill : MethodName := ⟨RX5, "sill", "(I)I"⟩
abbrev cX5_onePersonMore : ByteArray := prog_7_method_24_code
def yX5_onePersonMore : MethodName := ⟨RX5, "onePersonMore", "(I)I"⟩
abbrev cX5_person : ByteArray := prog_7_method_25_code
def yX5_person : MethodName := ⟨RX5, "person", "(I)I"⟩
abbrev cX5_holds : ByteArray := prog_7_method_26_code
def yX5_holds : MethodName := ⟨RX5, "holds", "(I)I"⟩
abbrev cX5_keptSet : ByteArray := prog_7_method_27_code
def yX5_keptSet : MethodName := ⟨RX5, "keptSet", "(I)I"⟩
abbrev cX5_givesFrom : ByteArray := prog_7_method_28_code
def yX5_givesFrom : MethodName := ⟨RX5, "givesFrom", "(I)I"⟩
abbrev cX5_gives : ByteArray := prog_7_method_29_code
def yX5_gives : MethodName := ⟨RX5, "gives", "(I)I"⟩
abbrev cX5_greatest : ByteArray := prog_7_method_30_code
def yX5_greatest : MethodName := ⟨RX5, "greatest", "(I)I"⟩
abbrev cX5_least : ByteArray := prog_7_method_31_code
def yX5_least : MethodName := ⟨RX5, "least", "(I)I"⟩
abbrev cX5_takesOf : ByteArray := prog_7_method_32_code
def yX5_takesOf : MethodName := ⟨RX5, "takesOf", "(II)I"⟩
abbrev cX5_told : ByteArray := prog_7_method_33_code
def yX5_told : MethodName := ⟨RX5, "told", "(II)I"⟩
abbrev cX5_of : ByteArray := prog_7_method_34_code
def yX5_of : MethodName := ⟨RX5, "of", "(II)I"⟩
abbrev cX5_word : ByteArray := prog_7_method_35_code
def yX5_word : MethodName := ⟨RX5, "word", "(II)I"⟩
abbrev cX5_change : ByteArray := prog_7_method_36_code
def yX5_change : MethodName := ⟨RX5, "change", "(III)I"⟩
abbrev cX5_lays : ByteArray := prog_7_method_37_code
def yX5_lays : MethodName := ⟨RX5, "lays", "(II)I"⟩
abbrev cX5_lay : ByteArray := prog_7_method_38_code
def yX5_lay : MethodName := ⟨RX5, "lay", "(II)I"⟩
abbrev cX5_ofPerson : ByteArray := prog_7_method_39_code
def yX5_ofPerson : MethodName := ⟨RX5, "ofPerson", "(II)I"⟩
abbrev cX5_send : ByteArray := prog_7_method_40_code
def yX5_send : MethodName := ⟨RX5, "send", "(III)I"⟩
abbrev cX5_takes : ByteArray := prog_7_method_41_code
def yX5_takes : MethodName := ⟨RX5, "takes", "(II)I"⟩
abbrev cX5_more : ByteArray := prog_7_method_42_code
def yX5_more : MethodName := ⟨RX5, "more", "(III)V"⟩
abbrev cX5_mayCross : ByteArray := prog_7_method_43_code
def yX5_mayCross : MethodName := ⟨RX5, "mayCross", "(II)Z"⟩
abbrev cX5_goesIn : ByteArray := prog_7_method_44_code
def yX5_goesIn : MethodName := ⟨RX5, "goesIn", "(II)I"⟩
abbrev cX5_comesOut : ByteArray := prog_7_method_45_code
def yX5_comesOut : MethodName := ⟨RX5, "comesOut", "(II)I"⟩
abbrev cX5_crosses : ByteArray := prog_7_method_46_code
def yX5_crosses : MethodName := ⟨RX5, "crosses", "(II)I"⟩
abbrev cX5_cross : ByteArray := prog_7_method_47_code
def yX5_cross : MethodName := ⟨RX5, "cross", "(II)I"⟩
abbrev cX5_day : ByteArray := prog_7_method_48_code
def yX5_day : MethodName := ⟨RX5, "day", "()V"⟩
abbrev cX5_daysGo : ByteArray := prog_7_method_49_code
def yX5_daysGo : MethodName := ⟨RX5, "daysGo", "(I)V"⟩
abbrev cX5_go : ByteArray := prog_7_method_50_code
def yX5_go : MethodName := ⟨RX5, "go", "(I)I"⟩
abbrev cX5_sumOf : ByteArray := prog_7_method_51_code
def yX5_sumOf : MethodName := ⟨RX5, "sumOf", "(I)I"⟩
abbrev cX5_heard : ByteArray := prog_7_method_52_code
def yX5_heard : MethodName := ⟨RX5, "heard", "()I"⟩
abbrev cX5_allKept : ByteArray := prog_7_method_53_code
def yX5_allKept : MethodName := ⟨RX5, "allKept", "()I"⟩
abbrev cX5_inside : ByteArray := prog_7_method_54_code
def yX5_inside : MethodName := ⟨RX5, "inside", "()I"⟩
abbrev cX5_muteOnes : ByteArray := prog_7_method_55_code
def yX5_muteOnes : MethodName := ⟨RX5, "muteOnes", "()I"⟩
abbrev cX5_now : ByteArray := prog_7_method_56_code
def yX5_now : MethodName := ⟨RX5, "now", "(I)I"⟩
abbrev cX5_behind : ByteArray := prog_7_method_57_code
def yX5_behind : MethodName := ⟨RX5, "behind", "(II)I"⟩
abbrev cX5_ahead : ByteArray := prog_7_method_58_code
def yX5_ahead : MethodName := ⟨RX5, "ahead", "(III)I"⟩
abbrev cX5_later : ByteArray := prog_7_method_59_code
def yX5_later : MethodName := ⟨RX5, "later", "(III)I"⟩
abbrev cX5_hasWord : ByteArray := prog_7_method_60_code
def yX5_hasWord : MethodName := ⟨RX5, "hasWord", "(II)Z"⟩
abbrev cX5_hears : ByteArray := prog_7_method_61_code
def yX5_hears : MethodName := ⟨RX5, "hears", "(II)I"⟩
abbrev cX5_daysTo : ByteArray := prog_7_method_62_code
def yX5_daysTo : MethodName := ⟨RX5, "daysTo", "(III)I"⟩
abbrev cX5_waste : ByteArray := prog_7_method_63_code
def yX5_waste : MethodName := ⟨RX5, "waste", "(I)I"⟩
abbrev cX5_mute : ByteArray := prog_7_method_64_code
def yX5_mute : MethodName := ⟨RX5, "mute", "(I)I"⟩
abbrev cX5_isThought : ByteArray := prog_7_method_65_code
def yX5_isThought : MethodName := ⟨RX5, "isThought", "(I)Z"⟩
abbrev cX5_leastLost : ByteArray := prog_7_method_66_code
def yX5_leastLost : MethodName := ⟨RX5, "leastLost", "(IIII)I"⟩
abbrev cX5_sillFor : ByteArray := prog_7_method_67_code
def yX5_sillFor : MethodName := ⟨RX5, "sillFor", "(II)I"⟩
abbrev cX5_kindFor : ByteArray := prog_7_method_68_code
def yX5_kindFor : MethodName := ⟨RX5, "kindFor", "(II)I"⟩
abbrev cX5_wordFor : ByteArray := prog_7_method_69_code
def yX5_wordFor : MethodName := ⟨RX5, "wordFor", "(III)I"⟩
abbrev cX5_staysAway : ByteArray := prog_7_method_70_code
def yX5_staysAway : MethodName := ⟨RX5, "staysAway", "(IIII)Z"⟩
abbrev cX5_mend : ByteArray := prog_7_method_71_code
def yX5_mend : MethodName := ⟨RX5, "mend", "(III)I"⟩
abbrev cX5_seek : ByteArray := prog_7_method_72_code
def yX5_seek : MethodName := ⟨RX5, "seek", "(II)I"⟩
abbrev cX5_lacks : ByteArray := prog_7_method_73_code
def yX5_lacks : MethodName := ⟨RX5, "lacks", "(IZ)I"⟩
abbrev cX5_isSo : ByteArray := prog_7_method_74_code
def yX5_isSo : MethodName := ⟨RX5, "isSo", "(II)Z"⟩
abbrev cX5_fits : ByteArray := prog_7_method_75_code
def yX5_fits : MethodName := ⟨RX5, "fits", "(II)I"⟩
abbrev cX5_kinds : ByteArray := prog_7_method_76_code
def yX5_kinds : MethodName := ⟨RX5, "kinds", "(II)I"⟩
abbrev cX5_drawn : ByteArray := prog_7_method_77_code
def yX5_drawn : MethodName := ⟨RX5, "drawn", "()I"⟩
abbrev cX5_stroll : ByteArray := prog_7_method_78_code
def yX5_stroll : MethodName := ⟨RX5, "stroll", "(I)I"⟩
abbrev cX5_odds : ByteArray := prog_7_method_79_code
def yX5_odds : MethodName := ⟨RX5, "odds", "(III)J"⟩
abbrev cX5_seed : ByteArray := prog_7_method_80_code
def yX5_seed : MethodName := ⟨RX5, "seed", "(I)I"⟩
abbrev cX5_feed : ByteArray := prog_7_method_81_code
def yX5_feed : MethodName := ⟨RX5, "feed", "(II)I"⟩
abbrev cX5_wipe : ByteArray := prog_7_method_82_code
def yX5_wipe : MethodName := ⟨RX5, "wipe", "()I"⟩
abbrev cX5_byteAt : ByteArray := prog_7_method_83_code
def yX5_byteAt : MethodName := ⟨RX5, "byteAt", "(I)I"⟩
abbrev cX5_token : ByteArray := prog_7_method_84_code
def yX5_token : MethodName := ⟨RX5, "token", "()V"⟩
abbrev cX5_isWord : ByteArray := prog_7_method_85_code
def yX5_isWord : MethodName := ⟨RX5, "isWord", "(Ljava/lang/String;)Z"⟩
abbrev cX5_must : ByteArray := prog_7_method_86_code
def yX5_must : MethodName := ⟨RX5, "must", "(Z)V"⟩
abbrev cX5_number : ByteArray := prog_7_method_87_code
def yX5_number : MethodName := ⟨RX5, "number", "(II)I"⟩
abbrev cX5_takesWord : ByteArray := prog_7_method_88_code
def yX5_takesWord : MethodName := ⟨RX5, "takesWord", "(Ljava/lang/String;)Z"⟩
abbrev cX5_readSill : ByteArray := prog_7_method_89_code
def yX5_readSill : MethodName := ⟨RX5, "readSill", "(II)V"⟩
abbrev cX5_readPerson : ByteArray := prog_7_method_90_code
def yX5_readPerson : MethodName := ⟨RX5, "readPerson", "(I)V"⟩
abbrev cX5_readItem : ByteArray := prog_7_method_91_code
def yX5_readItem : MethodName := ⟨RX5, "readItem", "()V"⟩
abbrev cX5_isToldSo : ByteArray := prog_7_method_92_code
def yX5_isToldSo : MethodName := ⟨RX5, "isToldSo", "(I)V"⟩
abbrev cX5_text : ByteArray := prog_7_method_93_code
def yX5_text : MethodName := ⟨RX5, "text", "()I"⟩
abbrev cX5_isSpot : ByteArray := prog_7_method_94_code
def yX5_isSpot : MethodName := ⟨RX5, "isSpot", "(I)Z"⟩
abbrev cX5_hold : ByteArray := prog_7_method_95_code
def yX5_hold : MethodName := ⟨RX5, "hold", "(II)I"⟩
abbrev cX5_as : ByteArray := prog_7_method_96_code
def yX5_as : MethodName := ⟨RX5, "as", "(II)I"⟩
abbrev cX5_isSheet : ByteArray := prog_7_method_97_code
def yX5_isSheet : MethodName := ⟨RX5, "isSheet", "(I)Z"⟩
abbrev cX5_cutTo : ByteArray := prog_7_method_98_code
def yX5_cutTo : MethodName := ⟨RX5, "cutTo", "(II)I"⟩
abbrev cX5_sheet : ByteArray := prog_7_method_99_code
def yX5_sheet : MethodName := ⟨RX5, "sheet", "(III)I"⟩
abbrev cX5_write : ByteArray := prog_7_method_100_code
def yX5_write : MethodName := ⟨RX5, "write", "(III)I"⟩
abbrev cX5_copy : ByteArray := prog_7_method_101_code
def yX5_copy : MethodName := ⟨RX5, "copy", "(IIIII)I"⟩
abbrev cX5_above : ByteArray := prog_7_method_102_code
def yX5_above : MethodName := ⟨RX5, "above", "(I)I"⟩
abbrev cX5_isUnder : ByteArray := prog_7_method_103_code
def yX5_isUnder : MethodName := ⟨RX5, "isUnder", "(II)Z"⟩
abbrev cX5_load : ByteArray := prog_7_method_104_code
def yX5_load : MethodName := ⟨RX5, "load", "(I)I"⟩
abbrev cX5_judge : ByteArray := prog_7_method_105_code
def yX5_judge : MethodName := ⟨RX5, "judge", "(I)I"⟩
abbrev cX5_image : ByteArray := prog_7_method_106_code
def yX5_image : MethodName := ⟨RX5, "image", "()I"⟩
abbrev cX5_undo : ByteArray := prog_7_method_107_code
def yX5_undo : MethodName := ⟨RX5, "undo", "()I"⟩
abbrev cX5_tear : ByteArray := prog_7_method_108_code
def yX5_tear : MethodName := ⟨RX5, "tear", "()I"⟩
abbrev cX5_count : ByteArray := prog_7_method_109_code
def yX5_count : MethodName := ⟨RX5, "count", "(I)I"⟩
abbrev cX5_status : ByteArray := prog_7_method_110_code
def yX5_status : MethodName := ⟨RX5, "status", "(I)I"⟩
def RJ6 : String := "java/lang/Integer"
abbrev cJ6_bitCount_0f7a4 : ByteArray := prog_8_method_49_code
def yJ6_bitCount_0f7a4 : MethodName := ⟨RJ6, "bitCount", "(I)I"⟩
def RJ9 : String := "java/lang/Math"
abbrev cJ9_floorMod_7cf53 : ByteArray := prog_9_method_50_code
def yJ9_floorMod_7cf53 : MethodName := ⟨RJ9, "floorMod", "(II)I"⟩
abbrev cJ9_min_7cf53 : ByteArray := prog_9_method_69_code
def yJ9_min_7cf53 : MethodName := ⟨RJ9, "min", "(II)I"⟩
def RJ0 : String := "java/lang/String"
abbrev cJ0_length_8abf5 : ByteArray := prog_10_method_54_code
def yJ0_length_8abf5 : MethodName := ⟨RJ0, "length", "()I"⟩
abbrev cJ0_charAt_5068e : ByteArray := prog_10_method_56_code
def yJ0_charAt_5068e : MethodName := ⟨RJ0, "charAt", "(I)C"⟩
abbrev cJ0_coder_7d493 : ByteArray := prog_10_method_152_code
def yJ0_coder_7d493 : MethodName := ⟨RJ0, "coder", "()B"⟩
abbrev cJ0_isLatin1_aae02 : ByteArray := prog_10_method_154_code
def yJ0_isLatin1_aae02 : MethodName := ⟨RJ0, "isLatin1", "()Z"⟩
abbrev cJ0_checkIndex_df160 : ByteArray := prog_10_method_155_code
def yJ0_checkIndex_df160 : MethodName := ⟨RJ0, "checkIndex", "(II)V"⟩
def RJ1 : String := "java/lang/StringLatin1"
abbrev cJ1_charAt_3b067 : ByteArray := prog_11_method_2_code
def yJ1_charAt_3b067 : MethodName := ⟨RJ1, "charAt", "([BI)C"⟩
def RJ2 : String := "java/lang/StringUTF16"
abbrev cJ2_getChar_3b067 : ByteArray := prog_12_method_5_code
def yJ2_getChar_3b067 : MethodName := ⟨RJ2, "getChar", "([BI)C"⟩
abbrev cJ2_length_9d52b : ByteArray := prog_12_method_6_code
def yJ2_length_9d52b : MethodName := ⟨RJ2, "length", "([B)I"⟩
abbrev cJ2_charAt_3b067 : ByteArray := prog_12_method_83_code
def yJ2_charAt_3b067 : MethodName := ⟨RJ2, "charAt", "([BI)C"⟩
abbrev cJ2_checkIndex_2214a : ByteArray := prog_12_method_91_code
def yJ2_checkIndex_2214a : MethodName := ⟨RJ2, "checkIndex", "(I[B)V"⟩
def RJ10 : String := "java/lang/System"
def RJ3 : String := "jdk/internal/util/Preconditions"
abbrev cJ3_checkIndex_8e157 : ByteArray := prog_14_method_11_code
def yJ3_checkIndex_8e157 : MethodName := ⟨RJ3, "checkIndex", "(IILjava/util/function/BiFunction;)I"⟩
def RL : String := "TollSillsLaw"
abbrev cL_law : ByteArray := code
def yL_law : MethodName := ⟨RL, "law", "([I)Z"⟩
end
section
/-! the pure machine: values (an int, a long, a cell of a group, a String constant), the world (group, cell, place), locals, stack; one instruction; a run; its limit -/
abbrev ts_V : Type := Int32 ⊕ Int64 ⊕ (Nat × Nat) ⊕ Nat
abbrev ts_S : Type := Nat → Nat → Nat → Int32
abbrev ts_L : Type := List (Option ts_V)
abbrev ts_C : Type := Nat × ts_L × List ts_V × ts_S
abbrev ts_A : Type := Option ts_V × ts_S
abbrev ts_E : Type := Nat → List ts_V → ts_S → Option ts_A
abbrev ts_I : Type := Instr × Nat × Nat × List (Nat × Nat)
abbrev ts_K : Type := ts_C → Option ts_A
/-- a group's kind: 0 Quarter, 1 Sheets, 2 Tape, 3 TollSills, 4 the model -/
def ts_kd (g : Nat) : Nat := match g with
  | 0 => 3
  | 1 => 0
  | 2 => 0
  | 3 => 0
  | 4 => 2
  | 5 => 1
  | 6 => 4
  | _ => 9
/-- a kind's fields: a number, or a cell of a group further on -/
def ts_fl (k : Nat) : List (Option (Nat × Nat)) := match k with
  | 0 => [some (0, 1), none, none, none, none, some (0, 2), some (0, 3), some (0, 4), some (0, 5), some (0, 6), none, some (0, 7), some (0, 8), some (0, 9), some (0, 10)]
  | 1 => [some (0, 1), some (0, 2), some (0, 3)]
  | 2 => [some (0, 1), none, none, none, none, none]
  | 3 => [some (1, 0), some (2, 0), some (3, 0), none, some (4, 0), some (5, 0), some (0, 1)]
  | 4 => [some (0, 1), some (0, 2), some (0, 3), none, some (0, 4), some (0, 5), none, none, none, none, none, none, some (0, 6), some (0, 7), none, none, none, some (0, 8), some (0, 9), some (0, 10), some (0, 11)]
  | _ => []
/-- a kind's rows of ints, by cell: how long -/
def ts_al (k : Nat) : List (Option Nat) := match k with
  | 0 => [none, some 6, some 8, some 8, some 8, some 8, some 40, some 6, some 6, some 6, some 10]
  | 1 => [none, some 4, some 4, some 160]
  | 2 => [none, some 120]
  | 3 => [none, some 7]
  | 4 => [none, some 111, some 111, some 111, some 8, some 120, none, some 960, some 4, some 4, some 160, some 40]
  | _ => []
def ts_ck (i : Int32) (n : Nat) (x : Option ts_A) : Option ts_A := if i < 0 ∨ n ≤ i.toNatClampNeg then none else x
def ts_up (σ : ts_S) (g c j : Nat) (x : Int32) : ts_S := va_up σ g (va_up (σ g) c (upd (σ g c) j x))
def ts_o1 (st : List ts_V) (f : Int32 → List ts_V → Option ts_A) : Option ts_A := match st with
  | .inl x :: r => f x r
  | _ => none
def ts_o2 (st : List ts_V) (f : Int32 → Int32 → List ts_V → Option ts_A) : Option ts_A := match st with
  | .inl y :: .inl x :: r => f x y r
  | _ => none
def ts_l1 (st : List ts_V) (f : Int64 → List ts_V → Option ts_A) : Option ts_A := match st with
  | .inr (.inl x) :: r => f x r
  | _ => none
def ts_l2 (st : List ts_V) (f : Int64 → Int64 → List ts_V → Option ts_A) : Option ts_A := match st with
  | .inr (.inl y) :: .inr (.inl x) :: r => f x y r
  | _ => none
/-- a cell on the stack -/
def ts_r1 (st : List ts_V) (f : Nat → Nat → List ts_V → Option ts_A) : Option ts_A := match st with
  | .inr (.inr (.inl (g, c))) :: r => f g c r
  | _ => none
/-- an index, and a cell under it -/
def ts_r2 (st : List ts_V) (f : Int32 → Nat → Nat → List ts_V → Option ts_A) : Option ts_A := match st with
  | .inl i :: .inr (.inr (.inl (g, c))) :: r => f i g c r
  | _ => none
/-- a value, an index, and a cell under it -/
def ts_r3 (st : List ts_V) (f : Int32 → Int32 → Nat → Nat → List ts_V → Option ts_A) : Option ts_A := match st with
  | .inl x :: .inl i :: .inr (.inr (.inl (g, c))) :: r => f x i g c r
  | _ => none
def ts_nl (lo : ts_L) (i : Nat) : Bool := match i with
  | 0 => true
  | j + 1 => match lo[j]? with
    | some (some (.inr (.inl _))) => false
    | _ => true
def ts_sto (lo : ts_L) (i : Nat) (v : ts_V) (f : ts_L → Option ts_A) : Option ts_A := cond (Nat.blt i lo.length && ts_nl lo i) (f (lo.set i (some v))) none
def ts_st2 (lo : ts_L) (i : Nat) (v : ts_V) (f : ts_L → Option ts_A) : Option ts_A := cond (Nat.blt (i + 1) lo.length && ts_nl lo i) (f ((lo.set i (some v)).set (i + 1) none)) none
def ts_li (lo : ts_L) (i : Nat) (f : Int32 → Option ts_A) : Option ts_A := match lo[i]? with
  | some (some (.inl x)) => f x
  | _ => none
def ts_ll (lo : ts_L) (i : Nat) (f : Int64 → Option ts_A) : Option ts_A := match lo[i]? with
  | some (some (.inr (.inl x))) => f x
  | _ => none
def ts_lr (lo : ts_L) (i : Nat) (f : (Nat × Nat) ⊕ Nat → Option ts_A) : Option ts_A := match lo[i]? with
  | some (some (.inr (.inr x))) => f x
  | _ => none
def ts_sw (x : Int32) (d : Nat) (f : Nat → Option ts_A) : List (Nat × Nat) → Option ts_A
  | [] => f d
  | (v, t) :: r => if x = Int32.ofNat v then f t else ts_sw x d f r
/-- how many words a value takes -/
def ts_cat (v : ts_V) : Nat := match v with
  | .inr (.inl _) => 2
  | _ => 1
def ts_sum : List ts_V → Nat
  | [] => 0
  | v :: r => ts_cat v + ts_sum r
def ts_an (k c : Nat) (f : Nat → Option ts_A) : Option ts_A := match (ts_al k)[c]? with
  | some (some n) => f n
  | _ => none
def ts_gf (σ : ts_S) (g b : Nat) (o : Option (Option (Nat × Nat))) (f : ts_V → Option ts_A) : Option ts_A := match o with
  | some none => f (.inl (σ g 0 b))
  | some (some (dg, c)) => f (.inr (.inr (.inl (g + dg, c))))
  | none => none
def ts_pf (o : Option (Option (Nat × Nat))) (x : Option ts_A) : Option ts_A := match o with
  | some none => x
  | _ => none
/-- the receiver's kind: 0 to 4 an own class, 8 a String, 9 none asked -/
def ts_rc (t : Nat) (as : List ts_V) : Bool := match as with
  | .inr (.inr (.inl (g, c))) :: _ => (c == 0 && (ts_kd g == t)) || t == 9
  | .inr (.inr (.inr j)) :: _ => (t == 8 && Nat.blt j 13) || t == 9
  | _ => t == 9
def ts_ac (st : List ts_V) (σ : ts_S) (f : List ts_V → ts_S → Option ts_A) : Option ts_A := match st with
  | .inl n :: .inl dp :: .inr (.inr (.inl (g1, c1))) :: .inl sp :: .inr (.inr (.inl (g0, c0))) :: r =>
    ts_an (ts_kd g0) c0 fun n0 => ts_an (ts_kd g1) c1 fun n1 =>
      if sp < 0 ∨ dp < 0 ∨ n < 0 ∨ n0 < sp.toNatClampNeg + n.toNatClampNeg ∨ n1 < dp.toNatClampNeg + n.toNatClampNeg then none
      else f r (va_up σ g1 (va_up (σ g1) c1 (va_cpy (σ g0 c0) (σ g1 c1) sp.toNatClampNeg dp.toNatClampNeg n.toNatClampNeg)))
  | _ => none
def ts_psh (r : Option ts_V) (st : List ts_V) : List ts_V := match r with
  | some v => v :: st
  | none => st
/-- one instruction: i.2.1, i.2.2.1, i.2.2.2 are what the tables know of it -/
def ts_st (E : ts_E) (i : ts_I) (pc : Nat) (lo : ts_L) (st : List ts_V) (σ : ts_S) (k : ts_K) : Option ts_A := match i.1 with
  | .iconst _ => k (pc + 1, lo, .inl (Int32.ofNat i.2.1) :: st, σ)
  | .bipush _ => k (pc + 2, lo, .inl (Int32.ofNat i.2.1) :: st, σ)
  | .sipush _ => k (pc + 3, lo, .inl (Int32.ofNat i.2.1) :: st, σ)
  | .ldc _ => cond (i.2.2.1 == 0) (k (pc + 2, lo, .inl (Int32.ofNat i.2.1) :: st, σ)) (k (pc + 2, lo, .inr (.inr (.inr i.2.1)) :: st, σ))
  | .ldc_w _ => cond (i.2.2.1 == 0) (k (pc + 3, lo, .inl (Int32.ofNat i.2.1) :: st, σ)) (k (pc + 3, lo, .inr (.inr (.inr i.2.1)) :: st, σ))
  | .lconst _ => k (pc + 1, lo, .inr (.inl (Int64.ofNat i.2.1)) :: st, σ)
  | .iload_n _ => ts_li lo i.2.1 fun x => k (pc + 1, lo, .inl x :: st, σ)
  | .iload _ => ts_li lo i.2.1 fun x => k (pc + 2, lo, .inl x :: st, σ)
  | .lload_n _ => ts_ll lo i.2.1 fun x => k (pc + 1, lo, .inr (.inl x) :: st, σ)
  | .lload _ => ts_ll lo i.2.1 fun x => k (pc + 2, lo, .inr (.inl x) :: st, σ)
  | .aload_n _ => ts_lr lo i.2.1 fun x => k (pc + 1, lo, .inr (.inr x) :: st, σ)
  | .aload _ => ts_lr lo i.2.1 fun x => k (pc + 2, lo, .inr (.inr x) :: st, σ)
  | .istore_n _ => ts_o1 st fun x r => ts_sto lo i.2.1 (.inl x) fun lo' => k (pc + 1, lo', r, σ)
  | .istore _ => ts_o1 st fun x r => ts_sto lo i.2.1 (.inl x) fun lo' => k (pc + 2, lo', r, σ)
  | .lstore_n _ => ts_l1 st fun x r => ts_st2 lo i.2.1 (.inr (.inl x)) fun lo' => k (pc + 1, lo', r, σ)
  | .lstore _ => ts_l1 st fun x r => ts_st2 lo i.2.1 (.inr (.inl x)) fun lo' => k (pc + 2, lo', r, σ)
  | .iinc _ _ => ts_li lo i.2.1 fun x => ts_sto lo i.2.1 (.inl (x + Int32.ofNat i.2.2.1)) fun lo' => k (pc + 3, lo', st, σ)
  | .iadd => ts_o2 st fun x y r => k (pc + 1, lo, .inl (x + y) :: r, σ)
  | .isub => ts_o2 st fun x y r => k (pc + 1, lo, .inl (x - y) :: r, σ)
  | .imul => ts_o2 st fun x y r => k (pc + 1, lo, .inl (x * y) :: r, σ)
  | .iand => ts_o2 st fun x y r => k (pc + 1, lo, .inl (x &&& y) :: r, σ)
  | .ior => ts_o2 st fun x y r => k (pc + 1, lo, .inl (x ||| y) :: r, σ)
  | .ixor => ts_o2 st fun x y r => k (pc + 1, lo, .inl (x ^^^ y) :: r, σ)
  | .ishl => ts_o2 st fun x y r => k (pc + 1, lo, .inl (x <<< (y &&& 31)) :: r, σ)
  | .ishr => ts_o2 st fun x y r => k (pc + 1, lo, .inl (x >>> (y &&& 31)) :: r, σ)
  | .iushr => ts_o2 st fun x y r => k (pc + 1, lo, .inl ((x.toUInt32 >>> (y.toUInt32 &&& Int32.toUInt32 31)).toInt32) :: r, σ)
  | .idiv => ts_o2 st fun x y r => if y = 0 then none else k (pc + 1, lo, .inl (x / y) :: r, σ)
  | .irem => ts_o2 st fun x y r => if y = 0 then none else k (pc + 1, lo, .inl (x - x / y * y) :: r, σ)
  | .i2l => ts_o1 st fun x r => k (pc + 1, lo, .inr (.inl x.toInt64) :: r, σ)
  | .i2b => ts_o1 st fun x r => k (pc + 1, lo, .inl x.toInt8.toInt32 :: r, σ)
  | .i2s => ts_o1 st fun x r => k (pc + 1, lo, .inl x.toInt16.toInt32 :: r, σ)
  | .ladd => ts_l2 st fun x y r => k (pc + 1, lo, .inr (.inl (x + y)) :: r, σ)
  | .lmul => ts_l2 st fun x y r => k (pc + 1, lo, .inr (.inl (x * y)) :: r, σ)
  | .lcmp => ts_l2 st fun x y r => k (pc + 1, lo, .inl (lg_cmp x y) :: r, σ)
  | .dup => match st with
    | v :: r => cond (ts_cat v == 1) (k (pc + 1, lo, v :: v :: r, σ)) none
    | _ => none
  | .dup2 => match st with
    | v :: w :: r => cond (ts_cat v == 1 && ts_cat w == 1) (k (pc + 1, lo, v :: w :: v :: w :: r, σ)) none
    | _ => none
  | .pop => match st with
    | v :: r => cond (ts_cat v == 1) (k (pc + 1, lo, r, σ)) none
    | _ => none
  | .ifCond .eq _ => ts_o1 st fun x r => if x = 0 then k (i.2.1, lo, r, σ) else k (pc + 3, lo, r, σ)
  | .ifCond .ne _ => ts_o1 st fun x r => if x = 0 then k (pc + 3, lo, r, σ) else k (i.2.1, lo, r, σ)
  | .ifCond .lt _ => ts_o1 st fun x r => if x < 0 then k (i.2.1, lo, r, σ) else k (pc + 3, lo, r, σ)
  | .ifCond .ge _ => ts_o1 st fun x r => if 0 ≤ x then k (i.2.1, lo, r, σ) else k (pc + 3, lo, r, σ)
  | .ifCond .gt _ => ts_o1 st fun x r => if 0 < x then k (i.2.1, lo, r, σ) else k (pc + 3, lo, r, σ)
  | .ifCond .le _ => ts_o1 st fun x r => if x ≤ 0 then k (i.2.1, lo, r, σ) else k (pc + 3, lo, r, σ)
  | .if_icmp .eq _ => ts_o2 st fun x y r => if x = y then k (i.2.1, lo, r, σ) else k (pc + 3, lo, r, σ)
  | .if_icmp .ne _ => ts_o2 st fun x y r => if x = y then k (pc + 3, lo, r, σ) else k (i.2.1, lo, r, σ)
  | .if_icmp .lt _ => ts_o2 st fun x y r => if x < y then k (i.2.1, lo, r, σ) else k (pc + 3, lo, r, σ)
  | .if_icmp .ge _ => ts_o2 st fun x y r => if y ≤ x then k (i.2.1, lo, r, σ) else k (pc + 3, lo, r, σ)
  | .if_icmp .gt _ => ts_o2 st fun x y r => if y < x then k (i.2.1, lo, r, σ) else k (pc + 3, lo, r, σ)
  | .if_icmp .le _ => ts_o2 st fun x y r => if x ≤ y then k (i.2.1, lo, r, σ) else k (pc + 3, lo, r, σ)
  | .goto _ => k (i.2.1, lo, st, σ)
  | .tableswitch _ _ _ _ => ts_o1 st fun x r => ts_sw x i.2.1 (fun t => k (t, lo, r, σ)) i.2.2.2
  | .lookupswitch _ _ => ts_o1 st fun x r => ts_sw x i.2.1 (fun t => k (t, lo, r, σ)) i.2.2.2
  | .getfield _ => ts_r1 st fun g c r => cond (c == 0 && ts_kd g == i.2.1) (ts_gf σ g i.2.2.1 ((ts_fl i.2.1)[i.2.2.1]?) fun v => k (pc + 3, lo, v :: r, σ)) none
  | .putfield _ => match st with
    | .inl x :: .inr (.inr (.inl (g, c))) :: r => cond (c == 0 && ts_kd g == i.2.1) (ts_pf ((ts_fl i.2.1)[i.2.2.1]?) (match i.2.2.2 with
      | [(_, 0)] => k (pc + 3, lo, r, ts_up σ g 0 i.2.2.1 x)
      | _ => if x = 0 ∨ x = 1 then k (pc + 3, lo, r, ts_up σ g 0 i.2.2.1 x) else none)) none
    | _ => none
  | .iaload => ts_r2 st fun j g c r => ts_an (ts_kd g) c fun n => ts_ck j n (k (pc + 1, lo, .inl (σ g c j.toNatClampNeg) :: r, σ))
  | .iastore => ts_r3 st fun x j g c r => ts_an (ts_kd g) c fun n => ts_ck j n (k (pc + 1, lo, r, ts_up σ g c j.toNatClampNeg x))
  | .aaload => ts_r2 st fun j g c r => cond (g == 6 && c == 6) (ts_ck j 7 (k (pc + 1, lo, .inr (.inr (.inr j.toNatClampNeg)) :: r, σ))) none
  | .arraylength => ts_r1 st fun g c r => match (ts_al (ts_kd g))[c]? with
    | some (some n) => k (pc + 1, lo, .inl (Int32.ofNat n) :: r, σ)
    | _ => cond (g == 6 && c == 6) (k (pc + 1, lo, .inl 7 :: r, σ)) none
  | .invokevirtual _ => match i.2.2.2 with
    | [(_, t)] => cond (Nat.ble i.2.2.1 st.length && (Nat.ble (ts_sum (st.drop i.2.2.1)) 8 && ts_rc t (st.take i.2.2.1).reverse)) ((E i.2.1 (st.take i.2.2.1).reverse σ).bind fun q => k (pc + 3, lo, ts_psh q.1 (st.drop i.2.2.1), q.2)) none
    | _ => none
  | .invokestatic _ => match i.2.2.2 with
    | [(_, t)] => cond (t == 7) (ts_ac st σ fun r σ' => cond (Nat.ble (ts_sum r) 8) (k (pc + 3, lo, r, σ')) none)
      (cond (Nat.ble i.2.2.1 st.length && Nat.ble (ts_sum (st.drop i.2.2.1)) 8) ((E i.2.1 (st.take i.2.2.1).reverse σ).bind fun q => k (pc + 3, lo, ts_psh q.1 (st.drop i.2.2.1), q.2)) none)
    | _ => none
  | .ireturn => match st with
    | [.inl x] => cond (i.2.1 == 0) (some (some (.inl x), σ)) (if x = 0 ∨ x = 1 then some (some (.inl x), σ) else none)
    | _ => none
  | .lreturn => match st with
    | [.inr (.inl x)] => some (some (.inr (.inl x)), σ)
    | _ => none
  | .areturn => match st with
    | [.inr (.inr x)] => some (some (.inr (.inr x)), σ)
    | _ => none
  | .return_ => match st with
    | [] => some (none, σ)
    | _ => none
  | _ => none
def ts_stp (E : ts_E) (tb : List (Option ts_I)) (c : ts_C) (k : ts_K) : Option ts_A := match tb[c.1]? with
  | some (some i) => ts_st E i c.1 c.2.1 c.2.2.1 c.2.2.2 k
  | _ => none
def ts_run (E : ts_E) (tb : List (Option ts_I)) : Nat → ts_K
  | 0, _ => none
  | n + 1, c => ts_stp E tb c (ts_run E tb n)
end
section
/-! a step asks its continuation at one place at most; runs grow; the limit is a fixed point -/
def ts_one (F : ts_K → Option ts_A) : Prop := (∃ a, ∀ k, F k = a) ∨ ∃ c, ∀ k, F k = k c
theorem one_k (c : ts_C) : ts_one (fun k => k c) := Or.inr ⟨c, fun _ => rfl⟩
theorem one_c (a : Option ts_A) : ts_one (fun _ => a) := Or.inl ⟨a, fun _ => rfl⟩
theorem one_if {p : Prop} [Decidable p] {F G : ts_K → Option ts_A} (hF : ts_one F) (hG : ts_one G) : ts_one (fun k => if p then F k else G k) := by
  by_cases h : p
  · simp only [if_pos h]; exact hF
  · simp only [if_neg h]; exact hG
theorem one_cond {b : Bool} {F G : ts_K → Option ts_A} (hF : ts_one F) (hG : ts_one G) : ts_one (fun k => cond b (F k) (G k)) := by
  cases b
  · exact hG
  · exact hF
theorem one_bind {o : Option ts_A} {F : ts_A → ts_K → Option ts_A} (hF : ∀ a, ts_one (F a)) : ts_one (fun k => o.bind (fun a => F a k)) := by
  cases o with
  | none => exact one_c none
  | some a => exact hF a
theorem one_ck {i : Int32} {n : Nat} {F : ts_K → Option ts_A} (hF : ts_one F) : ts_one (fun k => ts_ck i n (F k)) := one_if (one_c none) hF
theorem one_o1 {st : List ts_V} {F : ts_K → Int32 → List ts_V → Option ts_A} (hF : ∀ x r, ts_one (fun k => F k x r)) : ts_one (fun k => ts_o1 st (F k)) := by
  unfold ts_o1
  split
  · exact hF _ _
  · exact one_c none
theorem one_o2 {st : List ts_V} {F : ts_K → Int32 → Int32 → List ts_V → Option ts_A} (hF : ∀ x y r, ts_one (fun k => F k x y r)) : ts_one (fun k => ts_o2 st (F k)) := by
  unfold ts_o2
  split
  · exact hF _ _ _
  · exact one_c none
theorem one_l1 {st : List ts_V} {F : ts_K → Int64 → List ts_V → Option ts_A} (hF : ∀ x r, ts_one (fun k => F k x r)) : ts_one (fun k => ts_l1 st (F k)) := by
  unfold ts_l1
  split
  · exact hF _ _
  · exact one_c none
theorem one_l2 {st : List ts_V} {F : ts_K → Int64 → Int64 → List ts_V → Option ts_A} (hF : ∀ x y r, ts_one (fun k => F k x y r)) : ts_one (fun k => ts_l2 st (F k)) := by
  unfold ts_l2
  split
  · exact hF _ _ _
  · exact one_c none
theorem one_r1 {st : List ts_V} {F : ts_K → Nat → Nat → List ts_V → Option ts_A} (hF : ∀ g c r, ts_one (fun k => F k g c r)) : ts_one (fun k => ts_r1 st (F k)) := by
  unfold ts_r1
  split
  · exact hF _ _ _
  · exact one_c none
theorem one_r2 {st : List ts_V} {F : ts_K → Int32 → Nat → Nat → List ts_V → Option ts_A} (hF : ∀ i g c r, ts_one (fun k => F k i g c r)) : ts_one (fun k => ts_r2 st (F k)) := by
  unfold ts_r2
  split
  · exact hF _ _ _ _
  · exact one_c none
theorem one_r3 {st : List ts_V} {F : ts_K → Int32 → Int32 → Nat → Nat → List ts_V → Option ts_A} (hF : ∀ x i g c r, ts_one (fun k => F k x i g c r)) : ts_one (fun k => ts_r3 st (F k)) := by
  unfold ts_r3
  split
  · exact hF _ _ _ _ _
  · exact one_c none
theorem one_li {lo : ts_L} {i : Nat} {F : ts_K → Int32 → Option ts_A} (hF : ∀ x, ts_one (fun k => F k x)) : ts_one (fun k => ts_li lo i (F k)) := by
  unfold ts_li
  split
  · exact hF _
  · exact one_c none
theorem one_ll {lo : ts_L} {i : Nat} {F : ts_K → Int64 → Option ts_A} (hF : ∀ x, ts_one (fun k => F k x)) : ts_one (fun k => ts_ll lo i (F k)) := by
  unfold ts_ll
  split
  · exact hF _
  · exact one_c none
theorem one_lr {lo : ts_L} {i : Nat} {F : ts_K → (Nat × Nat) ⊕ Nat → Option ts_A} (hF : ∀ x, ts_one (fun k => F k x)) : ts_one (fun k => ts_lr lo i (F k)) := by
  unfold ts_lr
  split
  · exact hF _
  · exact one_c none
theorem one_an {a c : Nat} {F : ts_K → Nat → Option ts_A} (hF : ∀ x, ts_one (fun k => F k x)) : ts_one (fun k => ts_an a c (F k)) := by
  unfold ts_an
  split
  · exact hF _
  · exact one_c none
theorem one_sto {lo : ts_L} {i : Nat} {v : ts_V} {F : ts_K → ts_L → Option ts_A} (hF : ∀ x, ts_one (fun k => F k x)) : ts_one (fun k => ts_sto lo i v (F k)) := one_cond (hF _) (one_c none)
theorem one_st2 {lo : ts_L} {i : Nat} {v : ts_V} {F : ts_K → ts_L → Option ts_A} (hF : ∀ x, ts_one (fun k => F k x)) : ts_one (fun k => ts_st2 lo i v (F k)) := one_cond (hF _) (one_c none)
theorem one_gf {σ : ts_S} {g b : Nat} {o : Option (Option (Nat × Nat))} {F : ts_K → ts_V → Option ts_A} (hF : ∀ x, ts_one (fun k => F k x)) : ts_one (fun k => ts_gf σ g b o (F k)) := by
  unfold ts_gf
  split
  · exact hF _
  · exact hF _
  · exact one_c none
theorem one_pf {o : Option (Option (Nat × Nat))} {F : ts_K → Option ts_A} (hF : ts_one F) : ts_one (fun k => ts_pf o (F k)) := by
  unfold ts_pf
  split
  · exact hF
  · exact one_c none
theorem one_sw {x : Int32} {d : Nat} {F : ts_K → Nat → Option ts_A} (hF : ∀ t, ts_one (fun k => F k t)) : ∀ ps : List (Nat × Nat), ts_one (fun k => ts_sw x d (F k) ps)
  | [] => hF d
  | (v, t) :: r => one_if (hF t) (one_sw hF r)
theorem one_ac {st : List ts_V} {σ : ts_S} {F : ts_K → List ts_V → ts_S → Option ts_A} (hF : ∀ r s, ts_one (fun k => F k r s)) : ts_one (fun k => ts_ac st σ (F k)) := by
  unfold ts_ac
  split
  · exact one_an fun n0 => one_an fun n1 => one_if (one_c none) (hF _ _)
  · exact one_c none
set_option maxHeartbeats 4000000 in
theorem ts_st_one (E : ts_E) (i : ts_I) (pc : Nat) (lo : ts_L) (st : List ts_V) (σ : ts_S) : ts_one (fun k => ts_st E i pc lo st σ k) := by
  obtain ⟨i, a, b, ps⟩ := i
  unfold ts_st
  split <;> (try dsimp only) <;> first
    | exact one_k _
    | exact one_c _
    | exact one_cond (one_k _) (one_k _)
    | exact one_li fun x => one_k _
    | exact one_ll fun x => one_k _
    | exact one_lr fun x => one_k _
    | exact one_o1 fun x r => one_k _
    | exact one_o2 fun x y r => one_k _
    | exact one_l2 fun x y r => one_k _
    | exact one_o2 fun x y r => one_if (one_c none) (one_k _)
    | exact one_o1 fun x r => one_if (one_k _) (one_k _)
    | exact one_o2 fun x y r => one_if (one_k _) (one_k _)
    | exact one_o1 fun x r => one_sto fun l => one_k _
    | exact one_l1 fun x r => one_st2 fun l => one_k _
    | exact one_li fun x => one_sto fun l => one_k _
    | exact one_o1 fun x r => one_sw (fun t => one_k _) ps
    | exact one_r1 fun g c r => one_cond (one_gf fun v => one_k _) (one_c none)
    | exact one_r2 fun j g c r => one_an fun n => one_ck (one_k _)
    | exact one_r3 fun x j g c r => one_an fun n => one_ck (one_k _)
    | exact one_r2 fun j g c r => one_cond (one_ck (one_k _)) (one_c none)
    | (split <;> first
        | exact one_c _
        | exact one_cond (one_k _) (one_c none)
        | exact one_cond (one_c _) (one_c _)
        | exact one_cond (one_bind fun a => one_k _) (one_c none)
        | exact one_cond (one_ac fun r s => one_cond (one_k _) (one_c none)) (one_cond (one_bind fun a => one_k _) (one_c none))
        | (split <;> first
            | exact one_cond (one_pf (one_k _)) (one_c none)
            | exact one_cond (one_pf (one_if (one_k _) (one_c none))) (one_c none)))
    | (refine one_r1 fun g c r => ?_
       split
       · exact one_k _
       · exact one_cond (one_k _) (one_c none))
theorem ts_stp_one (E : ts_E) (tb : List (Option ts_I)) (c : ts_C) : (∃ a, ∀ k, ts_stp E tb c k = a) ∨ ∃ c', ∀ k, ts_stp E tb c k = k c' := by
  unfold ts_stp
  split
  · exact ts_st_one E _ _ _ _ _
  · exact one_c none
theorem ts_run_up (E : ts_E) (tb : List (Option ts_I)) : ∀ (n : Nat) (c : ts_C) (a : ts_A), ts_run E tb n c = some a → ts_run E tb (n + 1) c = some a
  | 0, _, _, h => by cases h
  | n + 1, c, a, h => by
    show ts_stp E tb c (ts_run E tb (n + 1)) = some a
    have h' : ts_stp E tb c (ts_run E tb n) = some a := h
    rcases ts_stp_one E tb c with ⟨b, hb⟩ | ⟨c', hc⟩
    · rw [hb] at h' ⊢; exact h'
    · rw [hc] at h' ⊢; exact ts_run_up E tb n c' a h'
theorem ts_run_le (E : ts_E) (tb : List (Option ts_I)) {n m : Nat} (h : n ≤ m) {c : ts_C} {a : ts_A} (hn : ts_run E tb n c = some a) : ts_run E tb m c = some a := by
  induction h with
  | refl => exact hn
  | step _ ih => exact ts_run_up E tb _ _ _ ih
noncomputable def ts_R (E : ts_E) (tb : List (Option ts_I)) (c : ts_C) : Option ts_A := @dite _ (∃ n a, ts_run E tb n c = some a) (Classical.propDecidable _) (fun h => ts_run E tb h.choose c) (fun _ => none)
theorem ts_R_spec {E : ts_E} {tb : List (Option ts_I)} {c : ts_C} {a : ts_A} (h : ts_R E tb c = some a) : ∃ n, ts_run E tb n c = some a := by
  unfold ts_R at h
  split at h
  · next hx => exact ⟨_, h⟩
  · cases h
theorem ts_R_of {E : ts_E} {tb : List (Option ts_I)} {c : ts_C} {a : ts_A} {n : Nat} (h : ts_run E tb n c = some a) : ts_R E tb c = some a := by
  unfold ts_R
  have hx : ∃ n a, ts_run E tb n c = some a := ⟨n, a, h⟩
  rw [dif_pos hx]
  obtain ⟨b, hb⟩ := hx.choose_spec
  have h1 := ts_run_le E tb (Nat.le_max_left hx.choose n) hb
  have h2 := ts_run_le E tb (Nat.le_max_right hx.choose n) h
  rw [hb, ← h1, h2]
theorem ts_R_none {E : ts_E} {tb : List (Option ts_I)} {c : ts_C} (h : ∀ n, ts_run E tb n c = none) : ts_R E tb c = none := by
  cases hr : ts_R E tb c with
  | none => rfl
  | some a =>
    obtain ⟨n, hn⟩ := ts_R_spec hr
    rw [h n] at hn
    cases hn
theorem ts_fix (E : ts_E) (tb : List (Option ts_I)) (c : ts_C) : ts_R E tb c = ts_stp E tb c (ts_R E tb) := by
  rcases ts_stp_one E tb c with ⟨b, hb⟩ | ⟨c', hc⟩
  · rw [hb]
    cases b with
    | some a => exact ts_R_of (n := 1) (hb _)
    | none =>
      refine ts_R_none fun n => ?_
      cases n with
      | zero => rfl
      | succ n => exact hb _
  · rw [hc]
    cases hr : ts_R E tb c' with
    | some a =>
      obtain ⟨n, hn⟩ := ts_R_spec hr
      exact ts_R_of (n := n + 1) ((hc _).trans hn)
    | none =>
      refine ts_R_none fun n => ?_
      cases n with
      | zero => rfl
      | succ n =>
        show ts_stp E tb c (ts_run E tb n) = none
        rw [hc]
        cases hn : ts_run E tb n c' with
        | none => rfl
        | some a => rw [ts_R_of hn] at hr; cases hr
/-- unrolled up to the stops -/
noncomputable def ts_un (E : ts_E) (tb : List (Option ts_I)) (sp : List Nat) : Nat → ts_K
  | 0, c => ts_R E tb c
  | n + 1, c => cond (sp.elem c.1) (ts_R E tb c) (ts_stp E tb c (ts_un E tb sp n))
theorem ts_un_eq (E : ts_E) (tb : List (Option ts_I)) (sp : List Nat) : ∀ (n : Nat), ts_un E tb sp n = ts_R E tb
  | 0 => rfl
  | n + 1 => by
    funext c
    show cond (sp.elem c.1) (ts_R E tb c) (ts_stp E tb c (ts_un E tb sp n)) = _
    rw [ts_un_eq E tb sp n, ← ts_fix]
    cases sp.elem c.1 <;> rfl
theorem ts_unf (E : ts_E) (tb : List (Option ts_I)) (sp : List Nat) (n : Nat) (c : ts_C) : ts_R E tb c = ts_stp E tb c (ts_un E tb sp n) := by
  rw [ts_un_eq]; exact ts_fix E tb c
/-- a method's entry -/
def ts_ent (as : List ts_V) (n : Nat) : ts_L := as.map some ++ List.replicate (n - as.length) none
end
section
/-! the world: 53 cells in seven groups; strings; what stays known of the machine -/
/-- the classes' places, the cells' addresses, the strings' and their bytes' addresses, the two array classes, what may change -/
abbrev ts_X : Type := va_G × (Nat → Nat → Nat) × (Nat → Nat) × (Nat → Nat) × ClassId × ClassId × (Nat → Prop)
abbrev ts_vc : List vw_C := [(RX1, TX1, 15), (RX2, TX2, 3), (RX3, TX3, 6), (RX4, TX4, 7), (RX5, TX5, 21)]
def ts_cl : List (Nat × Nat) := [(0, 0), (0, 1), (1, 0), (1, 1), (1, 2), (1, 3), (1, 4), (1, 5), (1, 6), (1, 7), (1, 8), (1, 9), (1, 10), (2, 0), (2, 1), (2, 2), (2, 3), (2, 4), (2, 5), (2, 6), (2, 7), (2, 8), (2, 9), (2, 10), (3, 0), (3, 1), (3, 2), (3, 3), (3, 4), (3, 5), (3, 6), (3, 7), (3, 8), (3, 9), (3, 10), (4, 0), (4, 1), (5, 0), (5, 1), (5, 2), (5, 3), (6, 0), (6, 1), (6, 2), (6, 3), (6, 4), (6, 5), (6, 6), (6, 7), (6, 8), (6, 9), (6, 10), (6, 11)]
def ts_tr (X : ts_X) (v : ts_V) : Value := match v with
  | .inl x => .int x
  | .inr (.inl x) => .long x
  | .inr (.inr (.inl (g, c))) => .ref (X.2.1 g c)
  | .inr (.inr (.inr k)) => .ref (X.2.2.1 k)
def ts_f1 (X : ts_X) (σ : ts_S) (g : Nat) (q : Option (Nat × Nat) × Nat) : Value := match q.1 with
  | none => .int (σ g 0 q.2)
  | some (dg, c) => .ref (X.2.1 (g + dg) c)
def ts_fs (X : ts_X) (σ : ts_S) (g : Nat) : List Value := (ts_fl (ts_kd g)).zipIdx.map (ts_f1 X σ g)
def ts_en (X : ts_X) (σ : ts_S) (g c : Nat) : va_E := match c with
  | 0 => .inr (ts_kd g, ts_fs X σ g)
  | c + 1 => match (ts_al (ts_kd g))[c + 1]? with
    | some (some n) => .inl (X.2.2.2.2.1, n, .inl (σ g (c + 1)))
    | _ => .inl (X.2.2.2.2.2.1, 7, .inr (.inr (.inr (.inr (fun i => some (X.2.2.1 i))))))
def ts_w1 (X : ts_X) (σ : ts_S) (q : Nat × Nat) : Nat × va_E := (X.2.1 q.1 q.2, ts_en X σ q.1 q.2)
def ts_ws (X : ts_X) (σ : ts_S) : va_W := ts_cl.map (ts_w1 X σ)
def ts_tys (X : ts_X) : List (ClassId × FieldType) := [(X.2.2.2.2.1, .int), (X.2.2.2.2.2.1, .object "java/lang/String")]
theorem ts_cl_inj : ∀ i, i < 53 → ∀ j, j < 53 → ts_cl[i]? = ts_cl[j]? → i = j := by decide +kernel
theorem ts_at (X : ts_X) (σ : ts_S) {g c : Nat} (h : (g, c) ∈ ts_cl) : ∃ q : Nat, ts_cl[q]? = some (g, c) ∧ (ts_ws X σ)[q]? = some (X.2.1 g c, ts_en X σ g c) := by
  obtain ⟨q, hq⟩ := List.getElem?_of_mem h
  exact ⟨q, hq, by rw [ts_ws, List.getElem?_map, hq]; rfl⟩
theorem ts_en_cong (X : ts_X) {σ σ' : ts_S} {g c : Nat} (h : σ' g c = σ g c) : ts_en X σ' g c = ts_en X σ g c := by
  cases c with
  | zero =>
    show Sum.inr (ts_kd g, ts_fs X σ' g) = Sum.inr (ts_kd g, ts_fs X σ g)
    have e : ts_f1 X σ' g = ts_f1 X σ g := by
      funext q
      unfold ts_f1
      split
      · rw [h]
      · rfl
    rw [ts_fs, ts_fs, e]
  | succ c => simp only [ts_en, h]
theorem ts_set (X : ts_X) {σ σ' : ts_S} {g c q : Nat} {e : va_E} (hq : ts_cl[q]? = some (g, c)) (he : ts_en X σ' g c = e) (ho : ∀ g' c', ¬ (g' = g ∧ c' = c) → σ' g' c' = σ g' c') : (ts_ws X σ).set q (X.2.1 g c, e) = ts_ws X σ' := by
  apply List.ext_getElem?
  intro j
  rw [List.getElem?_set, ts_ws, ts_ws, List.getElem?_map, List.getElem?_map]
  have hl : q < (ts_cl.map (ts_w1 X σ)).length := by rw [List.length_map]; exact (List.getElem?_eq_some_iff.mp hq).1
  by_cases hj : q = j
  · subst hj
    rw [if_pos rfl, if_pos hl, hq, ← he]; rfl
  · rw [if_neg hj]
    cases hx : ts_cl[j]? with
    | none => rfl
    | some p =>
      have hne : ¬ (p.1 = g ∧ p.2 = c) := by
        intro hp
        have hp' : p = (g, c) := Prod.ext hp.1 hp.2
        subst hp'
        exact hj (ts_cl_inj q (List.getElem?_eq_some_iff.mp hq).1 j (List.getElem?_eq_some_iff.mp hx).1 (hq.trans hx.symm))
      show some (ts_w1 X σ p) = some (ts_w1 X σ' p)
      rw [ts_w1, ts_w1, ts_en_cong X (ho p.1 p.2 hne)]
theorem ts_put_o (σ : ts_S) (g c : Nat) (f : Nat → Int32) : ∀ g' c', ¬ (g' = g ∧ c' = c) → va_up σ g (va_up (σ g) c f) g' c' = σ g' c' := by
  intro g' c' h
  unfold va_up
  by_cases h1 : g' = g
  · subst h1
    rw [if_pos rfl, if_neg (fun h2 => h ⟨rfl, h2⟩)]
  · rw [if_neg h1]
theorem ts_put_s (σ : ts_S) (g c : Nat) (f : Nat → Int32) : va_up σ g (va_up (σ g) c f) g c = f := by
  unfold va_up
  rw [if_pos rfl, if_pos rfl]
theorem ts_cell_row {g c n : Nat} (hg : g < 7) (h : (ts_al (ts_kd g))[c]? = some (some n)) : (g, c) ∈ ts_cl ∧ 0 < c := by
  have hc : c < 12 := by
    have h1 := (List.getElem?_eq_some_iff.mp h).1
    have : ∀ g, g < 7 → (ts_al (ts_kd g)).length ≤ 12 := by decide
    have := this g hg
    omega
  have hall : (List.range 7).all (fun g => (List.range 12).all (fun c => !((ts_al (ts_kd g))[c]?.join).isSome || (decide ((g, c) ∈ ts_cl) && decide (0 < c)))) = true := by decide +kernel
  have h2 := List.all_eq_true.mp (List.all_eq_true.mp hall g (List.mem_range.mpr hg)) c (List.mem_range.mpr hc)
  rw [h] at h2
  simpa using h2
theorem ts_cell_obj {g : Nat} (hg : g < 7) : (g, 0) ∈ ts_cl := by
  have : ∀ g, g < 7 → (g, 0) ∈ ts_cl := by decide
  exact this g hg
theorem ts_en_row (X : ts_X) (σ : ts_S) {g c n : Nat} (h0 : 0 < c) (h : (ts_al (ts_kd g))[c]? = some (some n)) : ts_en X σ g c = .inl (X.2.2.2.2.1, n, .inl (σ g c)) := by
  cases c with
  | zero => cases h0
  | succ c => unfold ts_en; simp only [h]
theorem ts_kd_lt {g a : Nat} (h : ts_kd g = a) (ha : a < 5) : g < 7 := by
  rcases Nat.lt_or_ge g 7 with q | q
  · exact q
  · have : ts_kd g = 9 := by
      unfold ts_kd
      split <;> omega
    omega
theorem ts_fs_at (X : ts_X) (σ : ts_S) {g b : Nat} {o : Option (Nat × Nat)} (h : (ts_fl (ts_kd g))[b]? = some o) : (ts_fs X σ g)[b]? = some (ts_f1 X σ g (o, b)) := by
  rw [ts_fs, List.getElem?_map, List.getElem?_zipIdx, h]
  simp
theorem ts_fs_set (X : ts_X) (σ : ts_S) {g b : Nat} (x : Int32) (h : (ts_fl (ts_kd g))[b]? = some none) : ts_fs X (ts_up σ g 0 b x) g = (ts_fs X σ g).set b (.int x) := by
  apply List.ext_getElem?
  intro j
  rw [List.getElem?_set]
  have hl : b < (ts_fs X σ g).length := by
    have := (List.getElem?_eq_some_iff.mp h).1
    simpa [ts_fs] using this
  cases hj : (ts_fl (ts_kd g))[j]? with
  | none =>
    have h1 : (ts_fs X (ts_up σ g 0 b x) g)[j]? = none := by rw [ts_fs, List.getElem?_map, List.getElem?_zipIdx, hj]; rfl
    have h2 : (ts_fs X σ g)[j]? = none := by rw [ts_fs, List.getElem?_map, List.getElem?_zipIdx, hj]; rfl
    have hne : ¬ b = j := fun e => by subst e; rw [hj] at h; cases h
    rw [h1, if_neg hne, h2]
  | some o =>
    rw [ts_fs_at X _ hj]
    by_cases e : b = j
    · subst e
      rw [h] at hj
      cases hj
      rw [if_pos rfl, if_pos hl]
      show some (Value.int (ts_up σ g 0 b x g 0 b)) = _
      rw [ts_up, ts_put_s, upd, if_pos rfl]
    · rw [if_neg e, ts_fs_at X _ hj]
      unfold ts_f1
      cases o with
      | none =>
        show some (Value.int (ts_up σ g 0 b x g 0 j)) = _
        rw [ts_up, ts_put_s, upd, if_neg (fun h => e h.symm)]
      | some q => rfl
/-! strings -/
def ts_tx : List (List Int32) := [[115, 105, 108, 108], [99, 104, 117, 114, 99, 104], [115, 97, 108, 111, 111, 110], [112, 111, 111, 114], [105, 110, 110], [98, 97, 114, 101], [109, 97, 114, 98, 108, 101], [112, 101, 114, 115, 111, 110], [99, 114, 111, 115, 115], [107, 101, 101, 112, 115], [109, 101, 110, 100, 101, 100], [104, 97, 115], [105, 110]]
def ts_s1 (X : ts_X) (U : State) (H : Heap) (i : Nat) : Prop := va_O "java/lang/String" (X.2.2.1 i) X.2.2.2.2.2.2 U H ∧ va_OF "java/lang/String" "coder" "B" (.int 0) (X.2.2.1 i) X.2.2.2.2.2.2 U H ∧ va_OF "java/lang/String" "value" "[B" (.ref (X.2.2.2.1 i)) (X.2.2.1 i) X.2.2.2.2.2.2 U H ∧ va_T .byte (X.2.2.2.1 i) (ts_tx.getD i []).length (fun j => .int ((ts_tx.getD i []).getD j 0)) X.2.2.2.2.2.2 U H
def ts_sr : List (String × Nat × String × Nat) := [("TollSills$Kinds", 37, "sill", 0), ("TollSills$Kinds", 25, "church", 1), ("TollSills$Kinds", 27, "saloon", 2), ("TollSills$Kinds", 29, "poor", 3), ("TollSills$Kinds", 31, "inn", 4), ("TollSills$Kinds", 33, "bare", 5), ("TollSills$Kinds", 35, "marble", 6), ("TollSills$Tape", 38, "person", 7), ("TollSills$Tape", 47, "cross", 8), ("TollSills$Tape", 68, "keeps", 9), ("TollSills$Tape", 73, "mended", 10), ("TollSills$Tape", 92, "has", 11), ("TollSills$Tape", 96, "in", 12),
  ("TollSillsModel", 27, "sill", 0), ("TollSillsModel", 29, "church", 1), ("TollSillsModel", 31, "saloon", 2), ("TollSillsModel", 33, "poor", 3), ("TollSillsModel", 35, "inn", 4), ("TollSillsModel", 37, "bare", 5), ("TollSillsModel", 39, "marble", 6), ("TollSillsModel", 307, "person", 7), ("TollSillsModel", 312, "cross", 8), ("TollSillsModel", 283, "keeps", 9), ("TollSillsModel", 291, "mended", 10), ("TollSillsModel", 296, "has", 11), ("TollSillsModel", 298, "in", 12)]
abbrev ts_nw : Cond := .methodLinkNest RX1 64 yX4_isBelow RX4
/-- what is known of the machine at a state with a heap, and stays known -/
def ts_Y (X : ts_X) (U : State) (H : Heap) : Prop := va_K X.1 ts_vc (ts_tys X) U ∧ (∀ i, i < 13 → ts_s1 X U H i) ∧ (∀ q ∈ ts_sr, vk_R q.1 q.2.1 q.2.2.1 (X.2.2.1 q.2.2.2) U) ∧ va_Nw ts_nw U ∧ va_Z "java/lang/String" "COMPACT_STRINGS" "Z" (.int 1) X.2.2.2.2.2.2 U H ∧ va_Zq "jdk/internal/util/Preconditions" "SIOOBE_FORMATTER" "Ljava/util/function/BiFunction;" X.2.2.2.2.2.2 U H
theorem ts_Y_to {X : ts_X} {s U : State} {H H1 : Heap} (h : ts_Y X s H) (hW : s.WarmedH U.vm) (hk : ∀ q : Nat, q < H.size → ¬ X.2.2.2.2.2.2 q → H1[q]? = H[q]?) : ts_Y X U H1 := by
  obtain ⟨h1, h2, h3, h4, h5, h6⟩ := h
  refine ⟨va_K.moved hW.alike h1, fun i hi => ?_, fun q hq => (h3 q hq).warm hW, va_Nw.warmM hW h4, (h5.moved hW.alike).kept hk, (h6.moved hW.alike).kept hk⟩
  obtain ⟨a, b, c, d⟩ := h2 i hi
  exact ⟨(a.moved hW.alike).kept hk, (b.moved hW.alike).kept hk, (c.moved hW.alike).kept hk, (d.moved hW.alike).kept hk⟩
theorem ts_Y_call {X : ts_X} {U : State} {g : JFrame} {mk : MethodId} {a : Array Value} (h : ts_Y X U U.heap) : ts_Y X (U.calling g mk a) (U.calling g mk a).heap := by
  obtain ⟨h1, h2, h3, h4, h5, h6⟩ := h
  have al : U.vm.Alike (U.calling g mk a).vm := Vm.Alike.refl U.vm
  refine ⟨va_K.moved al h1, fun i hi => ?_, fun q hq => (h3 q hq).same rfl, va_Nw.same rfl rfl h4, h5.moved al, h6.moved al⟩
  obtain ⟨a, b, c, d⟩ := h2 i hi
  exact ⟨a.moved al, b.moved al, c.moved al, d.moved al⟩
/-! locals -/
def ts_lo (X : ts_X) (nL : Nat) (lo : ts_L) (ls : Array Slot) : Prop := lo.length = nL ∧ ls.size = nL ∧ lv_wf ls ∧ ∀ (j : Nat) (v : ts_V), lo[j]? = some (some v) → ls[j]? = some (.val (ts_tr X v))
def ts_pr (X : ts_X) (lo : ts_L) (j : Nat) : Option (Nat × Value) := match lo[j]? with
  | some (some v) => some (j, ts_tr X v)
  | _ => none
def ts_prs (X : ts_X) (lo : ts_L) : List (Nat × Value) := (List.range lo.length).filterMap (ts_pr X lo)
theorem ts_prs_mem {X : ts_X} {lo : ts_L} {j : Nat} {v : ts_V} (h : lo[j]? = some (some v)) : (j, ts_tr X v) ∈ ts_prs X lo := by
  refine List.mem_filterMap.mpr ⟨j, List.mem_range.mpr (List.getElem?_eq_some_iff.mp h).1, ?_⟩
  unfold ts_pr
  rw [h]
theorem ts_lo_has {X : ts_X} {nL : Nat} {lo : ts_L} {ls : Array Slot} (h : ts_lo X nL lo ls) : lv_has ls nL (ts_prs X lo) := by
  refine ⟨h.2.1, h.2.2.1, fun q hq => ?_⟩
  obtain ⟨j, -, hj⟩ := List.mem_filterMap.mp hq
  unfold ts_pr at hj
  split at hj
  · next v hv => cases hj; exact h.2.2.2 j v hv
  · cases hj
theorem ts_tr_cat (X : ts_X) (v : ts_V) : (ts_tr X v).category = ts_cat v := by
  rcases v with x | x | ⟨g, c⟩ | x <;> rfl
theorem ts_nl_ok {lo : ts_L} {i j : Nat} {v : ts_V} (h : ts_nl lo i = true) (hj : lo[j]? = some (some v)) (e : j + 1 = i) : ts_cat v = 1 := by
  subst e
  unfold ts_nl at h
  rcases v with x | x | ⟨g, c⟩ | x
  · rfl
  · simp [hj] at h
  · rfl
  · rfl
theorem ts_lo_put {X : ts_X} {nL : Nat} {lo : ts_L} {ls ls' : Array Slot} {i : Nat} {v : ts_V} (h : ts_lo X nL lo ls) (hn : ts_nl lo i = true) (h' : lv_has ls' nL ((i, ts_tr X v) :: (ts_prs X lo).filter (fun q => !(q.1 == i) && !(q.1 + 1 == i && q.2.category == 2)))) : ts_lo X nL (lo.set i (some v)) ls' := by
  refine ⟨by rw [List.length_set]; exact h.1, h'.1, h'.2.1, fun j w hj => ?_⟩
  by_cases e : i = j
  · subst e
    rw [List.getElem?_set] at hj
    rw [if_pos rfl] at hj
    split at hj
    · cases hj
      exact h'.2.2 (i, ts_tr X v) List.mem_cons_self
    · cases hj
  · rw [List.getElem?_set, if_neg e] at hj
    refine h'.2.2 (j, ts_tr X w) (List.mem_cons_of_mem _ (List.mem_filter.mpr ⟨ts_prs_mem hj, ?_⟩))
    have c1 : (j == i) = false := by simpa using fun h => e h.symm
    have c2 : (j + 1 == i && (ts_tr X w).category == 2) = false := by
      by_cases q : j + 1 = i
      · rw [ts_tr_cat, ts_nl_ok hn hj q]; simp
      · simp [q]
    show (!(j == i) && !(j + 1 == i && (ts_tr X w).category == 2)) = true
    rw [c1, c2]; rfl
theorem ts_lo_put2 {X : ts_X} {nL : Nat} {lo : ts_L} {ls ls' : Array Slot} {i : Nat} {v : ts_V} (h : ts_lo X nL lo ls) (hn : ts_nl lo i = true) (h' : lv_has ls' nL ((i, ts_tr X v) :: (ts_prs X lo).filter (fun q => !(q.1 == i) && (!(q.1 == i + 1) && !(q.1 + 1 == i && q.2.category == 2))))) : ts_lo X nL ((lo.set i (some v)).set (i + 1) none) ls' := by
  refine ⟨by rw [List.length_set, List.length_set]; exact h.1, h'.1, h'.2.1, fun j w hj => ?_⟩
  rw [List.getElem?_set] at hj
  by_cases e1 : i + 1 = j
  · rw [if_pos e1] at hj
    split at hj <;> cases hj
  · rw [if_neg e1] at hj
    by_cases e : i = j
    · subst e
      rw [List.getElem?_set] at hj
      rw [if_pos rfl] at hj
      split at hj
      · cases hj
        exact h'.2.2 (i, ts_tr X v) List.mem_cons_self
      · cases hj
    · rw [List.getElem?_set, if_neg e] at hj
      refine h'.2.2 (j, ts_tr X w) (List.mem_cons_of_mem _ (List.mem_filter.mpr ⟨ts_prs_mem hj, ?_⟩))
      have c1 : (j == i) = false := by simpa using fun h => e h.symm
      have c3 : (j == i + 1) = false := by simpa using fun h => e1 h.symm
      have c2 : (j + 1 == i && (ts_tr X w).category == 2) = false := by
        by_cases q : j + 1 = i
        · rw [ts_tr_cat, ts_nl_ok hn hj q]; simp
        · simp [q]
      show (!(j == i) && (!(j == i + 1) && !(j + 1 == i && (ts_tr X w).category == 2))) = true
      rw [c1, c2, c3]; rfl
end
section
/-! the pure machine's step is the machine's -/
/-- a method: its name, code, locals, answer, how many parameters, the receiver's kind (9: static) -/
abbrev ts_M : Type := MethodName × ByteArray × Nat × Option FieldType × Nat × Nat
def ts_TB : List Cond := lw_tbl.filter goodWord
def ts_wl (mi : ts_M) : List Cond := .code mi.1 mi.2.1 mi.2.2.1 mi.2.2.2.1 :: ts_TB
def ts_sg : List (List Cond) := [k2_sels lw_privs, tables_1_1, tables_1_2, tables_1_3, tables_1_4, tables_1_5, tables_1_6]
def ts_wd (q : Nat) : Option Cond := match ts_sg[q / 1000]? with
  | some l => l[q % 1000]?
  | none => none
theorem ts_sg_in {l : List Cond} (h : l ∈ ts_sg) : ∀ w ∈ l, w ∈ lw_tbl := by
  intro w hw
  unfold lw_tbl tables_1
  simp only [ts_sg, List.mem_cons, List.not_mem_nil, or_false] at h
  simp only [List.mem_append]
  rcases h with rfl | rfl | rfl | rfl | rfl | rfl | rfl <;> simp [hw]
theorem ts_wd_in {q : Nat} {w : Cond} (h : ts_wd q = some w) : w ∈ lw_tbl := by
  unfold ts_wd at h
  split at h
  · next l hl => exact ts_sg_in (List.mem_of_getElem? hl) w (List.mem_of_getElem? h)
  · cases h
def ts_wx (q : Nat) (w : Cond) : Bool := goodWord w && decide (ts_wd q = some w)
theorem ts_wx_in {q : Nat} {w : Cond} (h : ts_wx q w = true) : w ∈ ts_TB := by
  simp only [ts_wx, Bool.and_eq_true, decide_eq_true_eq] at h
  exact List.mem_filter.mpr ⟨ts_wd_in h.2, h.1⟩
def ts_room (d : Nat) : Room := { frames := d, cells := 0, slots := 0, locals := 39 * d }
def ts_Pr (X : ts_X) (σ : ts_S) (U : State) : Prop := va_P X.1 ts_vc (ts_ws X σ) U.heap ∧ ts_Y X U U.heap
def ts_Po (X : ts_X) (r : Option ts_V) (σ : ts_S) : Array Value → State → Outcome → State → Prop := fun _ st oc t => oc = .returned (r.map (ts_tr X)) ∧ va_P X.1 ts_vc (ts_ws X σ) t.heap ∧ va_F X.2.2.2.2.2.2 st t
/-- a method's contract: from arguments and a world where the pure function answers, it answers so -/
def ts_Met (X : ts_X) (l : Launch) (mi : ts_M) (d : Nat) (S : List ts_V → ts_S → Option ts_A) : Prop := ∀ (as : List ts_V) (σ : ts_S) (r : Option ts_V) (σ' : ts_S), S as σ = some (r, σ') → Met l mi.1 (ts_wl mi) (ts_room d) (va_Pc (as.map (ts_tr X)) (ts_Pr X σ)) (ts_Po X r σ') 0 0 X.2.2.2.2.2.2
def ts_cn (t : Nat) : String := match t with
  | 0 => RX1
  | 1 => RX2
  | 2 => RX3
  | 3 => RX4
  | 4 => RX5
  | _ => "java/lang/String"
/-- the words of a method that is called -/
def ts_mw (mi : ts_M) : Prop := (Cond.code mi.1 mi.2.1 mi.2.2.1 mi.2.2.2.1 ∈ ts_TB ∧ Cond.initialized mi.1.cls ∈ ts_TB) ∧ (mi.1.cls ≠ "java/lang/invoke/MethodHandle" ∧ mi.1.cls ≠ "java/lang/invoke/VarHandle" ∧ (parseMethodDescriptor mi.1.desc).map (fun d => d.parameters.length) = some mi.2.2.2.2.1) ∧ mi.2.2.1 ≤ 20 ∧ ((mi.2.2.2.2.2 = 9 ∧ Cond.static mi.1 ∈ ts_TB) ∨ ((mi.2.2.2.2.2 < 5 ∨ mi.2.2.2.2.2 = 8) ∧ ts_cn mi.2.2.2.2.2 = mi.1.cls ∧ Cond.instanceMethod mi.1 ∈ ts_TB ∧ Cond.selects mi.1.cls mi.1 mi.1 ∈ ts_TB))
/-- a callee, from a room of depth d -/
def ts_Cal (X : ts_X) (l : Launch) (d : Nat) (mi : ts_M) (S : List ts_V → ts_S → Option ts_A) : Prop := ts_mw mi ∧ ∃ d', d' < d ∧ ts_Met X l mi d' S
def ts_Cx (X : ts_X) (p : Program) (s : State) (m : MethodId) (args : Array Value) (meth : Method) (c : Code) (cc : ByteArray) (nL : Nat) (own : String) (Ts : List Cond) : Prop :=
  p.tables.exec = Jvm.exec ∧ c.code = cc ∧ c.maxLocals = nL ∧ s.vm.findClass own = some m.cls ∧ (∀ w ∈ Ts, w.before args s = true) ∧ (∀ w ∈ ts_TB, w ∈ Ts) ∧ ts_Y X s s.heap ∧ (∀ σ, va_D X.2.2.2.2.2.2 (ts_ws X σ)) ∧ meth.locks = false
def ts_VV (X : ts_X) (p : Program) (l : Launch) (e : Env) (R : Room) (s : State) (m : MethodId) (args : Array Value) (below : List Frame) (meth : Method) (c : Code) (nL : Nat) (Q : State → Prop) (f : ts_C) : Prop :=
  ∀ (H : Heap) (locs : List Loc) (ls : Array Slot), va_P X.1 ts_vc (ts_ws X f.2.2.2) H → va_S X.2.2.2.2.2.2 s.heap H locs → ts_lo X nL f.2.1 ls → W p l e R s m args below meth c H locs 0 0 Q (F0 m f.1 ls (f.2.2.1.map (ts_tr X)))
/-! what the shapes of a step say -/
theorem ts_o1_i {st : List ts_V} {f : Int32 → List ts_V → Option ts_A} {a : ts_A} (h : ts_o1 st f = some a) : ∃ x r, st = .inl x :: r ∧ f x r = some a := by
  unfold ts_o1 at h
  split at h
  · exact ⟨_, _, rfl, h⟩
  · cases h
theorem ts_o2_i {st : List ts_V} {f : Int32 → Int32 → List ts_V → Option ts_A} {a : ts_A} (h : ts_o2 st f = some a) : ∃ x y r, st = .inl y :: .inl x :: r ∧ f x y r = some a := by
  unfold ts_o2 at h
  split at h
  · exact ⟨_, _, _, rfl, h⟩
  · cases h
theorem ts_l1_i {st : List ts_V} {f : Int64 → List ts_V → Option ts_A} {a : ts_A} (h : ts_l1 st f = some a) : ∃ x r, st = .inr (.inl x) :: r ∧ f x r = some a := by
  unfold ts_l1 at h
  split at h
  · exact ⟨_, _, rfl, h⟩
  · cases h
theorem ts_l2_i {st : List ts_V} {f : Int64 → Int64 → List ts_V → Option ts_A} {a : ts_A} (h : ts_l2 st f = some a) : ∃ x y r, st = .inr (.inl y) :: .inr (.inl x) :: r ∧ f x y r = some a := by
  unfold ts_l2 at h
  split at h
  · exact ⟨_, _, _, rfl, h⟩
  · cases h
theorem ts_r1_i {st : List ts_V} {f : Nat → Nat → List ts_V → Option ts_A} {a : ts_A} (h : ts_r1 st f = some a) : ∃ g c r, st = .inr (.inr (.inl (g, c))) :: r ∧ f g c r = some a := by
  unfold ts_r1 at h
  split at h
  · exact ⟨_, _, _, rfl, h⟩
  · cases h
theorem ts_r2_i {st : List ts_V} {f : Int32 → Nat → Nat → List ts_V → Option ts_A} {a : ts_A} (h : ts_r2 st f = some a) : ∃ i g c r, st = .inl i :: .inr (.inr (.inl (g, c))) :: r ∧ f i g c r = some a := by
  unfold ts_r2 at h
  split at h
  · exact ⟨_, _, _, _, rfl, h⟩
  · cases h
theorem ts_r3_i {st : List ts_V} {f : Int32 → Int32 → Nat → Nat → List ts_V → Option ts_A} {a : ts_A} (h : ts_r3 st f = some a) : ∃ x i g c r, st = .inl x :: .inl i :: .inr (.inr (.inl (g, c))) :: r ∧ f x i g c r = some a := by
  unfold ts_r3 at h
  split at h
  · exact ⟨_, _, _, _, _, rfl, h⟩
  · cases h
theorem ts_li_i {lo : ts_L} {i : Nat} {f : Int32 → Option ts_A} {a : ts_A} (h : ts_li lo i f = some a) : ∃ x, lo[i]? = some (some (.inl x)) ∧ f x = some a := by
  unfold ts_li at h
  split at h
  · next x hx => exact ⟨x, hx, h⟩
  · cases h
theorem ts_ll_i {lo : ts_L} {i : Nat} {f : Int64 → Option ts_A} {a : ts_A} (h : ts_ll lo i f = some a) : ∃ x, lo[i]? = some (some (.inr (.inl x))) ∧ f x = some a := by
  unfold ts_ll at h
  split at h
  · next x hx => exact ⟨x, hx, h⟩
  · cases h
theorem ts_lr_i {lo : ts_L} {i : Nat} {f : (Nat × Nat) ⊕ Nat → Option ts_A} {a : ts_A} (h : ts_lr lo i f = some a) : ∃ x, lo[i]? = some (some (.inr (.inr x))) ∧ f x = some a := by
  unfold ts_lr at h
  split at h
  · next x hx => exact ⟨x, hx, h⟩
  · cases h
theorem ts_an_i {k c : Nat} {f : Nat → Option ts_A} {a : ts_A} (h : ts_an k c f = some a) : ∃ n, (ts_al k)[c]? = some (some n) ∧ f n = some a := by
  unfold ts_an at h
  split at h
  · next n hn => exact ⟨n, hn, h⟩
  · cases h
theorem ts_ck_i {i : Int32} {n : Nat} {x : Option ts_A} {a : ts_A} (h : ts_ck i n x = some a) : vp_in i n ∧ x = some a := by
  unfold ts_ck at h
  split at h
  · cases h
  · next hn => exact ⟨hn, h⟩
theorem ts_cond_i {b : Bool} {x : Option ts_A} {a : ts_A} (h : cond b x none = some a) : b = true ∧ x = some a := by
  cases b
  · cases h
  · exact ⟨rfl, h⟩
theorem ts_sto_i {lo : ts_L} {i : Nat} {v : ts_V} {f : ts_L → Option ts_A} {a : ts_A} (h : ts_sto lo i v f = some a) : i < lo.length ∧ ts_nl lo i = true ∧ f (lo.set i (some v)) = some a := by
  obtain ⟨h1, h2⟩ := ts_cond_i h
  simp only [Bool.and_eq_true] at h1
  exact ⟨Nat.le_of_ble_eq_true h1.1, h1.2, h2⟩
theorem ts_st2_i {lo : ts_L} {i : Nat} {v : ts_V} {f : ts_L → Option ts_A} {a : ts_A} (h : ts_st2 lo i v f = some a) : i + 1 < lo.length ∧ ts_nl lo i = true ∧ f ((lo.set i (some v)).set (i + 1) none) = some a := by
  obtain ⟨h1, h2⟩ := ts_cond_i h
  simp only [Bool.and_eq_true] at h1
  exact ⟨Nat.le_of_ble_eq_true h1.1, h1.2, h2⟩
theorem ts_gf_i {σ : ts_S} {g b : Nat} {o : Option (Option (Nat × Nat))} {f : ts_V → Option ts_A} {a : ts_A} (h : ts_gf σ g b o f = some a) : (o = some none ∧ f (.inl (σ g 0 b)) = some a) ∨ ∃ dg c, o = some (some (dg, c)) ∧ f (.inr (.inr (.inl (g + dg, c)))) = some a := by
  unfold ts_gf at h
  split at h
  · exact Or.inl ⟨rfl, h⟩
  · exact Or.inr ⟨_, _, rfl, h⟩
  · cases h
theorem ts_pf_i {o : Option (Option (Nat × Nat))} {x : Option ts_A} {a : ts_A} (h : ts_pf o x = some a) : o = some none ∧ x = some a := by
  unfold ts_pf at h
  split at h
  · exact ⟨rfl, h⟩
  · cases h
section TSK
variable {X : ts_X} {p : Program} {l : Launch} {e : Env} {R : Room} {s : State} {m : MethodId} {args : Array Value} {below : List Frame} {meth : Method} {c : Code} {cc : ByteArray} {nL : Nat} {own : String} {Ts : List Cond} {Q : State → Prop} {pc : Nat} {lo : ts_L} {st : List ts_V} {σ : ts_S} {k : ts_K} {res : ts_A}

theorem tk_iconst (C : ts_Cx X p s m args meth c cc nL own Ts) (hk : ∀ f, k f = some res → ts_VV X p l e R s m args below meth c nL Q f) {n : Int} {v : Int32} (hd : decode cc pc = .ok (.iconst n, 1)) (hv : Int32.ofInt n = v) (h : k (pc + 1, lo, .inl v :: st, σ) = some res) : ts_VV X p l e R s m args below meth c nL Q (pc, lo, st, σ) :=
  fun H locs ls hP hS hL => lv_iconst C.1 C.2.1 hd hv (hk _ h H locs ls hP hS hL)
theorem tk_bipush (C : ts_Cx X p s m args meth c cc nL own Ts) (hk : ∀ f, k f = some res → ts_VV X p l e R s m args below meth c nL Q f) {n : Int} {v : Int32} (hd : decode cc pc = .ok (.bipush n, 2)) (hv : (Int8.ofInt n).toInt32 = v) (h : k (pc + 2, lo, .inl v :: st, σ) = some res) : ts_VV X p l e R s m args below meth c nL Q (pc, lo, st, σ) :=
  fun H locs ls hP hS hL => lv_bipush C.1 C.2.1 hd hv (hk _ h H locs ls hP hS hL)
theorem tk_sipush (C : ts_Cx X p s m args meth c cc nL own Ts) (hk : ∀ f, k f = some res → ts_VV X p l e R s m args below meth c nL Q f) {n : Int} {v : Int32} (hd : decode cc pc = .ok (.sipush n, 3)) (hv : (Int16.ofInt n).toInt32 = v) (h : k (pc + 3, lo, .inl v :: st, σ) = some res) : ts_VV X p l e R s m args below meth c nL Q (pc, lo, st, σ) :=
  fun H locs ls hP hS hL => lv_sipush C.1 C.2.1 hd hv (hk _ h H locs ls hP hS hL)
theorem tk_lconst (C : ts_Cx X p s m args meth c cc nL own Ts) (hk : ∀ f, k f = some res → ts_VV X p l e R s m args below meth c nL Q f) {n : Fin 2} {v : Int64} (hd : decode cc pc = .ok (.lconst n, 1)) (hv : Int64.ofNat (n : Nat) = v) (h : k (pc + 1, lo, .inr (.inl v) :: st, σ) = some res) : ts_VV X p l e R s m args below meth c nL Q (pc, lo, st, σ) :=
  fun H locs ls hP hS hL => lv_lconst C.1 C.2.1 hd hv (hk _ h H locs ls hP hS hL)
theorem tk_ldc (C : ts_Cx X p s m args meth c cc nL own Ts) (hk : ∀ f, k f = some res → ts_VV X p l e R s m args below meth c nL Q f) {j : Nat} {v : Int32} (hd : decode cc pc = .ok (.ldc j, 2)) (hw : Cond.constant own j v ∈ ts_TB) (h : k (pc + 2, lo, .inl v :: st, σ) = some res) : ts_VV X p l e R s m args below meth c nL Q (pc, lo, st, σ) :=
  fun H locs ls hP hS hL => lv_ldc C.1 C.2.1 C.2.2.2.1 (C.2.2.2.2.1 _ (C.2.2.2.2.2.1 _ hw)) hd (hk _ h H locs ls hP hS hL)
theorem tk_ldc_w (C : ts_Cx X p s m args meth c cc nL own Ts) (hk : ∀ f, k f = some res → ts_VV X p l e R s m args below meth c nL Q f) {j : Nat} {v : Int32} (hd : decode cc pc = .ok (.ldc_w j, 3)) (hw : Cond.constant own j v ∈ ts_TB) (h : k (pc + 3, lo, .inl v :: st, σ) = some res) : ts_VV X p l e R s m args below meth c nL Q (pc, lo, st, σ) :=
  fun H locs ls hP hS hL => lv_ldcw C.1 C.2.1 C.2.2.2.1 (C.2.2.2.2.1 _ (C.2.2.2.2.2.1 _ hw)) hd (hk _ h H locs ls hP hS hL)
theorem tk_iload_n (C : ts_Cx X p s m args meth c cc nL own Ts) (hk : ∀ f, k f = some res → ts_VV X p l e R s m args below meth c nL Q f) {n : Fin 4} {j : Nat} (hd : decode cc pc = .ok (.iload_n n, 1)) (hj : (n : Nat) = j) (h : ts_li lo j (fun x => k (pc + 1, lo, .inl x :: st, σ)) = some res) : ts_VV X p l e R s m args below meth c nL Q (pc, lo, st, σ) := by
  obtain ⟨x, hx, h⟩ := ts_li_i h
  exact fun H locs ls hP hS hL => lv_iload_n C.1 C.2.1 hd hj (hL.2.2.2 _ _ hx) (hk _ h H locs ls hP hS hL)
theorem tk_iload (C : ts_Cx X p s m args meth c cc nL own Ts) (hk : ∀ f, k f = some res → ts_VV X p l e R s m args below meth c nL Q f) {j : Nat} (hd : decode cc pc = .ok (.iload j, 2)) (h : ts_li lo j (fun x => k (pc + 2, lo, .inl x :: st, σ)) = some res) : ts_VV X p l e R s m args below meth c nL Q (pc, lo, st, σ) := by
  obtain ⟨x, hx, h⟩ := ts_li_i h
  exact fun H locs ls hP hS hL => lv_iload C.1 C.2.1 hd (hL.2.2.2 _ _ hx) (hk _ h H locs ls hP hS hL)
theorem tk_lload_n (C : ts_Cx X p s m args meth c cc nL own Ts) (hk : ∀ f, k f = some res → ts_VV X p l e R s m args below meth c nL Q f) {n : Fin 4} {j : Nat} (hd : decode cc pc = .ok (.lload_n n, 1)) (hj : (n : Nat) = j) (h : ts_ll lo j (fun x => k (pc + 1, lo, .inr (.inl x) :: st, σ)) = some res) : ts_VV X p l e R s m args below meth c nL Q (pc, lo, st, σ) := by
  obtain ⟨x, hx, h⟩ := ts_ll_i h
  exact fun H locs ls hP hS hL => lv_lload_n C.1 C.2.1 hd hj (hL.2.2.2 _ _ hx) (hk _ h H locs ls hP hS hL)
theorem tk_lload (C : ts_Cx X p s m args meth c cc nL own Ts) (hk : ∀ f, k f = some res → ts_VV X p l e R s m args below meth c nL Q f) {j : Nat} (hd : decode cc pc = .ok (.lload j, 2)) (h : ts_ll lo j (fun x => k (pc + 2, lo, .inr (.inl x) :: st, σ)) = some res) : ts_VV X p l e R s m args below meth c nL Q (pc, lo, st, σ) := by
  obtain ⟨x, hx, h⟩ := ts_ll_i h
  exact fun H locs ls hP hS hL => lv_lload C.1 C.2.1 hd (hL.2.2.2 _ _ hx) (hk _ h H locs ls hP hS hL)
theorem tk_aload_n (C : ts_Cx X p s m args meth c cc nL own Ts) (hk : ∀ f, k f = some res → ts_VV X p l e R s m args below meth c nL Q f) {n : Fin 4} {j : Nat} (hd : decode cc pc = .ok (.aload_n n, 1)) (hj : (n : Nat) = j) (h : ts_lr lo j (fun x => k (pc + 1, lo, .inr (.inr x) :: st, σ)) = some res) : ts_VV X p l e R s m args below meth c nL Q (pc, lo, st, σ) := by
  obtain ⟨x, hx, h⟩ := ts_lr_i h
  rcases x with ⟨g, c⟩ | x
  · exact fun H locs ls hP hS hL => lv_aload_n C.1 C.2.1 hd hj (hL.2.2.2 _ _ hx) (hk _ h H locs ls hP hS hL)
  · exact fun H locs ls hP hS hL => lv_aload_n C.1 C.2.1 hd hj (hL.2.2.2 _ _ hx) (hk _ h H locs ls hP hS hL)
theorem tk_aload (C : ts_Cx X p s m args meth c cc nL own Ts) (hk : ∀ f, k f = some res → ts_VV X p l e R s m args below meth c nL Q f) {j : Nat} (hd : decode cc pc = .ok (.aload j, 2)) (h : ts_lr lo j (fun x => k (pc + 2, lo, .inr (.inr x) :: st, σ)) = some res) : ts_VV X p l e R s m args below meth c nL Q (pc, lo, st, σ) := by
  obtain ⟨x, hx, h⟩ := ts_lr_i h
  rcases x with ⟨g, c⟩ | x
  · exact fun H locs ls hP hS hL => lv_aload C.1 C.2.1 hd (hL.2.2.2 _ _ hx) (hk _ h H locs ls hP hS hL)
  · exact fun H locs ls hP hS hL => lv_aload C.1 C.2.1 hd (hL.2.2.2 _ _ hx) (hk _ h H locs ls hP hS hL)
theorem tk_istore_n (C : ts_Cx X p s m args meth c cc nL own Ts) (hk : ∀ f, k f = some res → ts_VV X p l e R s m args below meth c nL Q f) {n : Fin 4} {j : Nat} (hd : decode cc pc = .ok (.istore_n n, 1)) (hj : (n : Nat) = j) (h0 : ts_o1 st (fun x r => ts_sto lo j (.inl x) fun lo' => k (pc + 1, lo', r, σ)) = some res) : ts_VV X p l e R s m args below meth c nL Q (pc, lo, st, σ) := by
  obtain ⟨x, r, rfl, h⟩ := ts_o1_i h0
  obtain ⟨h1, h2, h⟩ := ts_sto_i h
  exact fun H locs ls hP hS hL => lv_istore_n C.1 C.2.1 hd hj (ts_lo_has hL) (hL.1 ▸ h1) rfl (fun ls' hl' => hk _ h H locs ls' hP hS (ts_lo_put hL h2 hl'))
theorem tk_istore (C : ts_Cx X p s m args meth c cc nL own Ts) (hk : ∀ f, k f = some res → ts_VV X p l e R s m args below meth c nL Q f) {j : Nat} (hd : decode cc pc = .ok (.istore j, 2)) (h0 : ts_o1 st (fun x r => ts_sto lo j (.inl x) fun lo' => k (pc + 2, lo', r, σ)) = some res) : ts_VV X p l e R s m args below meth c nL Q (pc, lo, st, σ) := by
  obtain ⟨x, r, rfl, h⟩ := ts_o1_i h0
  obtain ⟨h1, h2, h⟩ := ts_sto_i h
  exact fun H locs ls hP hS hL => lv_istore C.1 C.2.1 hd (ts_lo_has hL) (hL.1 ▸ h1) rfl (fun ls' hl' => hk _ h H locs ls' hP hS (ts_lo_put hL h2 hl'))
theorem tk_lstore_n (C : ts_Cx X p s m args meth c cc nL own Ts) (hk : ∀ f, k f = some res → ts_VV X p l e R s m args below meth c nL Q f) {n : Fin 4} {j : Nat} (hd : decode cc pc = .ok (.lstore_n n, 1)) (hj : (n : Nat) = j) (h0 : ts_l1 st (fun x r => ts_st2 lo j (.inr (.inl x)) fun lo' => k (pc + 1, lo', r, σ)) = some res) : ts_VV X p l e R s m args below meth c nL Q (pc, lo, st, σ) := by
  obtain ⟨x, r, rfl, h⟩ := ts_l1_i h0
  obtain ⟨h1, h2, h⟩ := ts_st2_i h
  exact fun H locs ls hP hS hL => lv_lstore_n C.1 C.2.1 hd hj (ts_lo_has hL) (hL.1 ▸ h1) rfl (fun ls' hl' => hk _ h H locs ls' hP hS (ts_lo_put2 hL h2 hl'))
theorem tk_lstore (C : ts_Cx X p s m args meth c cc nL own Ts) (hk : ∀ f, k f = some res → ts_VV X p l e R s m args below meth c nL Q f) {j : Nat} (hd : decode cc pc = .ok (.lstore j, 2)) (h0 : ts_l1 st (fun x r => ts_st2 lo j (.inr (.inl x)) fun lo' => k (pc + 2, lo', r, σ)) = some res) : ts_VV X p l e R s m args below meth c nL Q (pc, lo, st, σ) := by
  obtain ⟨x, r, rfl, h⟩ := ts_l1_i h0
  obtain ⟨h1, h2, h⟩ := ts_st2_i h
  exact fun H locs ls hP hS hL => lv_lstore C.1 C.2.1 hd (ts_lo_has hL) (hL.1 ▸ h1) rfl (fun ls' hl' => hk _ h H locs ls' hP hS (ts_lo_put2 hL h2 hl'))
theorem tk_iinc (C : ts_Cx X p s m args meth c cc nL own Ts) (hk : ∀ f, k f = some res → ts_VV X p l e R s m args below meth c nL Q f) {j : Nat} {n : Int} {v : Int32} (hd : decode cc pc = .ok (.iinc j n, 3)) (hv : Int32.ofInt n = v) (h : ts_li lo j (fun x => ts_sto lo j (.inl (x + v)) fun lo' => k (pc + 3, lo', st, σ)) = some res) : ts_VV X p l e R s m args below meth c nL Q (pc, lo, st, σ) := by
  obtain ⟨x, hx, h⟩ := ts_li_i h
  obtain ⟨h1, h2, h⟩ := ts_sto_i h
  intro H locs ls hP hS hL
  obtain ⟨q, hq⟩ := List.getElem?_of_mem (ts_prs_mem (X := X) hx)
  exact lv_iinc C.1 C.2.1 hd (ts_lo_has hL) hq (by rw [hv]) (hL.1 ▸ h1) rfl (fun ls' hl' => hk _ h H locs ls' hP hS (ts_lo_put hL h2 hl'))
theorem tk_iadd (C : ts_Cx X p s m args meth c cc nL own Ts) (hk : ∀ f, k f = some res → ts_VV X p l e R s m args below meth c nL Q f) (hd : decode cc pc = .ok (.iadd, 1)) (h0 : ts_o2 st (fun x y r => k (pc + 1, lo, .inl (x + y) :: r, σ)) = some res) : ts_VV X p l e R s m args below meth c nL Q (pc, lo, st, σ) := by
  obtain ⟨x, y, r, rfl, h⟩ := ts_o2_i h0
  exact fun H locs ls hP hS hL => lv_iadd C.1 C.2.1 hd (hk _ h H locs ls hP hS hL)
theorem tk_isub (C : ts_Cx X p s m args meth c cc nL own Ts) (hk : ∀ f, k f = some res → ts_VV X p l e R s m args below meth c nL Q f) (hd : decode cc pc = .ok (.isub, 1)) (h0 : ts_o2 st (fun x y r => k (pc + 1, lo, .inl (x - y) :: r, σ)) = some res) : ts_VV X p l e R s m args below meth c nL Q (pc, lo, st, σ) := by
  obtain ⟨x, y, r, rfl, h⟩ := ts_o2_i h0
  exact fun H locs ls hP hS hL => lv_isub C.1 C.2.1 hd (hk _ h H locs ls hP hS hL)
theorem tk_imul (C : ts_Cx X p s m args meth c cc nL own Ts) (hk : ∀ f, k f = some res → ts_VV X p l e R s m args below meth c nL Q f) (hd : decode cc pc = .ok (.imul, 1)) (h0 : ts_o2 st (fun x y r => k (pc + 1, lo, .inl (x * y) :: r, σ)) = some res) : ts_VV X p l e R s m args below meth c nL Q (pc, lo, st, σ) := by
  obtain ⟨x, y, r, rfl, h⟩ := ts_o2_i h0
  exact fun H locs ls hP hS hL => lv_imul C.1 C.2.1 hd (hk _ h H locs ls hP hS hL)
theorem tk_iand (C : ts_Cx X p s m args meth c cc nL own Ts) (hk : ∀ f, k f = some res → ts_VV X p l e R s m args below meth c nL Q f) (hd : decode cc pc = .ok (.iand, 1)) (h0 : ts_o2 st (fun x y r => k (pc + 1, lo, .inl (x &&& y) :: r, σ)) = some res) : ts_VV X p l e R s m args below meth c nL Q (pc, lo, st, σ) := by
  obtain ⟨x, y, r, rfl, h⟩ := ts_o2_i h0
  exact fun H locs ls hP hS hL => lv_iand C.1 C.2.1 hd (hk _ h H locs ls hP hS hL)
theorem tk_ior (C : ts_Cx X p s m args meth c cc nL own Ts) (hk : ∀ f, k f = some res → ts_VV X p l e R s m args below meth c nL Q f) (hd : decode cc pc = .ok (.ior, 1)) (h0 : ts_o2 st (fun x y r => k (pc + 1, lo, .inl (x ||| y) :: r, σ)) = some res) : ts_VV X p l e R s m args below meth c nL Q (pc, lo, st, σ) := by
  obtain ⟨x, y, r, rfl, h⟩ := ts_o2_i h0
  exact fun H locs ls hP hS hL => lv_ior C.1 C.2.1 hd (hk _ h H locs ls hP hS hL)
theorem tk_ixor (C : ts_Cx X p s m args meth c cc nL own Ts) (hk : ∀ f, k f = some res → ts_VV X p l e R s m args below meth c nL Q f) (hd : decode cc pc = .ok (.ixor, 1)) (h0 : ts_o2 st (fun x y r => k (pc + 1, lo, .inl (x ^^^ y) :: r, σ)) = some res) : ts_VV X p l e R s m args below meth c nL Q (pc, lo, st, σ) := by
  obtain ⟨x, y, r, rfl, h⟩ := ts_o2_i h0
  exact fun H locs ls hP hS hL => lv_ixor C.1 C.2.1 hd (hk _ h H locs ls hP hS hL)
theorem tk_ishl (C : ts_Cx X p s m args meth c cc nL own Ts) (hk : ∀ f, k f = some res → ts_VV X p l e R s m args below meth c nL Q f) (hd : decode cc pc = .ok (.ishl, 1)) (h0 : ts_o2 st (fun x y r => k (pc + 1, lo, .inl (x <<< (y &&& 31)) :: r, σ)) = some res) : ts_VV X p l e R s m args below meth c nL Q (pc, lo, st, σ) := by
  obtain ⟨x, y, r, rfl, h⟩ := ts_o2_i h0
  exact fun H locs ls hP hS hL => lv_ishl C.1 C.2.1 hd (hk _ h H locs ls hP hS hL)
theorem tk_ishr (C : ts_Cx X p s m args meth c cc nL own Ts) (hk : ∀ f, k f = some res → ts_VV X p l e R s m args below meth c nL Q f) (hd : decode cc pc = .ok (.ishr, 1)) (h0 : ts_o2 st (fun x y r => k (pc + 1, lo, .inl (x >>> (y &&& 31)) :: r, σ)) = some res) : ts_VV X p l e R s m args below meth c nL Q (pc, lo, st, σ) := by
  obtain ⟨x, y, r, rfl, h⟩ := ts_o2_i h0
  exact fun H locs ls hP hS hL => lv_ishr C.1 C.2.1 hd (hk _ h H locs ls hP hS hL)
theorem tk_iushr (C : ts_Cx X p s m args meth c cc nL own Ts) (hk : ∀ f, k f = some res → ts_VV X p l e R s m args below meth c nL Q f) (hd : decode cc pc = .ok (.iushr, 1)) (h0 : ts_o2 st (fun x y r => k (pc + 1, lo, .inl ((x.toUInt32 >>> (y.toUInt32 &&& Int32.toUInt32 31)).toInt32) :: r, σ)) = some res) : ts_VV X p l e R s m args below meth c nL Q (pc, lo, st, σ) := by
  obtain ⟨x, y, r, rfl, h⟩ := ts_o2_i h0
  exact fun H locs ls hP hS hL => lv_iushr C.1 C.2.1 hd rfl (hk _ h H locs ls hP hS hL)
theorem tk_idiv (C : ts_Cx X p s m args meth c cc nL own Ts) (hk : ∀ f, k f = some res → ts_VV X p l e R s m args below meth c nL Q f) (hd : decode cc pc = .ok (.idiv, 1)) (h0 : ts_o2 st (fun x y r => if y = 0 then none else k (pc + 1, lo, .inl (x / y) :: r, σ)) = some res) : ts_VV X p l e R s m args below meth c nL Q (pc, lo, st, σ) := by
  obtain ⟨x, y, r, rfl, h⟩ := ts_o2_i h0
  by_cases hy : y = 0
  · rw [if_pos hy] at h; cases h
  · rw [if_neg hy] at h
    exact fun H locs ls hP hS hL => lv_idiv C.1 C.2.1 hd hy (hk _ h H locs ls hP hS hL)
theorem tk_irem (C : ts_Cx X p s m args meth c cc nL own Ts) (hk : ∀ f, k f = some res → ts_VV X p l e R s m args below meth c nL Q f) (hd : decode cc pc = .ok (.irem, 1)) (h0 : ts_o2 st (fun x y r => if y = 0 then none else k (pc + 1, lo, .inl (x - x / y * y) :: r, σ)) = some res) : ts_VV X p l e R s m args below meth c nL Q (pc, lo, st, σ) := by
  obtain ⟨x, y, r, rfl, h⟩ := ts_o2_i h0
  by_cases hy : y = 0
  · rw [if_pos hy] at h; cases h
  · rw [if_neg hy] at h
    exact fun H locs ls hP hS hL => lv_irem C.1 C.2.1 hd hy (hk _ h H locs ls hP hS hL)
theorem tk_i2l (C : ts_Cx X p s m args meth c cc nL own Ts) (hk : ∀ f, k f = some res → ts_VV X p l e R s m args below meth c nL Q f) (hd : decode cc pc = .ok (.i2l, 1)) (h0 : ts_o1 st (fun x r => k (pc + 1, lo, .inr (.inl x.toInt64) :: r, σ)) = some res) : ts_VV X p l e R s m args below meth c nL Q (pc, lo, st, σ) := by
  obtain ⟨x, r, rfl, h⟩ := ts_o1_i h0
  exact fun H locs ls hP hS hL => lv_i2l C.1 C.2.1 hd rfl (hk _ h H locs ls hP hS hL)
theorem tk_i2b (C : ts_Cx X p s m args meth c cc nL own Ts) (hk : ∀ f, k f = some res → ts_VV X p l e R s m args below meth c nL Q f) (hd : decode cc pc = .ok (.i2b, 1)) (h0 : ts_o1 st (fun x r => k (pc + 1, lo, .inl x.toInt8.toInt32 :: r, σ)) = some res) : ts_VV X p l e R s m args below meth c nL Q (pc, lo, st, σ) := by
  obtain ⟨x, r, rfl, h⟩ := ts_o1_i h0
  exact fun H locs ls hP hS hL => lv_i2b C.1 C.2.1 hd rfl (hk _ h H locs ls hP hS hL)
theorem tk_i2s (C : ts_Cx X p s m args meth c cc nL own Ts) (hk : ∀ f, k f = some res → ts_VV X p l e R s m args below meth c nL Q f) (hd : decode cc pc = .ok (.i2s, 1)) (h0 : ts_o1 st (fun x r => k (pc + 1, lo, .inl x.toInt16.toInt32 :: r, σ)) = some res) : ts_VV X p l e R s m args below meth c nL Q (pc, lo, st, σ) := by
  obtain ⟨x, r, rfl, h⟩ := ts_o1_i h0
  exact fun H locs ls hP hS hL => lv_i2s C.1 C.2.1 hd rfl (hk _ h H locs ls hP hS hL)
theorem tk_ladd (C : ts_Cx X p s m args meth c cc nL own Ts) (hk : ∀ f, k f = some res → ts_VV X p l e R s m args below meth c nL Q f) (hd : decode cc pc = .ok (.ladd, 1)) (h0 : ts_l2 st (fun x y r => k (pc + 1, lo, .inr (.inl (x + y)) :: r, σ)) = some res) : ts_VV X p l e R s m args below meth c nL Q (pc, lo, st, σ) := by
  obtain ⟨x, y, r, rfl, h⟩ := ts_l2_i h0
  exact fun H locs ls hP hS hL => lv_ladd C.1 C.2.1 hd (hk _ h H locs ls hP hS hL)
theorem tk_lmul (C : ts_Cx X p s m args meth c cc nL own Ts) (hk : ∀ f, k f = some res → ts_VV X p l e R s m args below meth c nL Q f) (hd : decode cc pc = .ok (.lmul, 1)) (h0 : ts_l2 st (fun x y r => k (pc + 1, lo, .inr (.inl (x * y)) :: r, σ)) = some res) : ts_VV X p l e R s m args below meth c nL Q (pc, lo, st, σ) := by
  obtain ⟨x, y, r, rfl, h⟩ := ts_l2_i h0
  exact fun H locs ls hP hS hL => lv_lmul C.1 C.2.1 hd (hk _ h H locs ls hP hS hL)
theorem tk_lcmp (C : ts_Cx X p s m args meth c cc nL own Ts) (hk : ∀ f, k f = some res → ts_VV X p l e R s m args below meth c nL Q f) (hd : decode cc pc = .ok (.lcmp, 1)) (h0 : ts_l2 st (fun x y r => k (pc + 1, lo, .inl (lg_cmp x y) :: r, σ)) = some res) : ts_VV X p l e R s m args below meth c nL Q (pc, lo, st, σ) := by
  obtain ⟨x, y, r, rfl, h⟩ := ts_l2_i h0
  exact fun H locs ls hP hS hL => W.lcmp C.1 C.2.1 hd (hk _ h H locs ls hP hS hL)
theorem tk_dup (C : ts_Cx X p s m args meth c cc nL own Ts) (hk : ∀ f, k f = some res → ts_VV X p l e R s m args below meth c nL Q f) {v : ts_V} {r : List ts_V} (hs : st = v :: r) (hd : decode cc pc = .ok (.dup, 1)) (h : cond (ts_cat v == 1) (k (pc + 1, lo, v :: v :: r, σ)) none = some res) : ts_VV X p l e R s m args below meth c nL Q (pc, lo, st, σ) := by
  subst hs
  obtain ⟨h1, h⟩ := ts_cond_i h
  exact fun H locs ls hP hS hL => lv_dup C.1 C.2.1 hd (by rw [ts_tr_cat]; exact eq_of_beq h1) (hk _ h H locs ls hP hS hL)
theorem tk_pop (C : ts_Cx X p s m args meth c cc nL own Ts) (hk : ∀ f, k f = some res → ts_VV X p l e R s m args below meth c nL Q f) {v : ts_V} {r : List ts_V} (hs : st = v :: r) (hd : decode cc pc = .ok (.pop, 1)) (h : cond (ts_cat v == 1) (k (pc + 1, lo, r, σ)) none = some res) : ts_VV X p l e R s m args below meth c nL Q (pc, lo, st, σ) := by
  subst hs
  obtain ⟨h1, h⟩ := ts_cond_i h
  exact fun H locs ls hP hS hL => lv_pop C.1 C.2.1 hd (by rw [ts_tr_cat]; exact eq_of_beq h1) (hk _ h H locs ls hP hS hL)
theorem tk_dup2 (C : ts_Cx X p s m args meth c cc nL own Ts) (hk : ∀ f, k f = some res → ts_VV X p l e R s m args below meth c nL Q f) {v w : ts_V} {r : List ts_V} (hs : st = v :: w :: r) (hd : decode cc pc = .ok (.dup2, 1)) (h : cond (ts_cat v == 1 && ts_cat w == 1) (k (pc + 1, lo, v :: w :: v :: w :: r, σ)) none = some res) : ts_VV X p l e R s m args below meth c nL Q (pc, lo, st, σ) := by
  subst hs
  obtain ⟨h1, h⟩ := ts_cond_i h
  simp only [Bool.and_eq_true, beq_iff_eq] at h1
  exact fun H locs ls hP hS hL => lv_dup2_11 C.1 C.2.1 hd (by rw [ts_tr_cat]; exact h1.1) (by rw [ts_tr_cat]; exact h1.2) (hk _ h H locs ls hP hS hL)
theorem tk_ifCond_eq (C : ts_Cx X p s m args meth c cc nL own Ts) (hk : ∀ f, k f = some res → ts_VV X p l e R s m args below meth c nL Q f) {o : Int} {t : Nat} (hd : decode cc pc = .ok (.ifCond .eq o, 3)) (ht : (pc : Int) + o = (t : Int)) (h0 : ts_o1 st (fun x r => if x = 0 then k (t, lo, r, σ) else k (pc + 3, lo, r, σ)) = some res) : ts_VV X p l e R s m args below meth c nL Q (pc, lo, st, σ) := by
  obtain ⟨x, r, rfl, h⟩ := ts_o1_i h0
  exact fun H locs ls hP hS hL => lv_if_eq C.1 C.2.1 hd ht (fun q => hk (t, lo, r, σ) (by rw [if_pos q] at h; exact h) H locs ls hP hS hL) (fun q => hk (pc + 3, lo, r, σ) (by rw [if_neg q] at h; exact h) H locs ls hP hS hL)
theorem tk_if_icmp_eq (C : ts_Cx X p s m args meth c cc nL own Ts) (hk : ∀ f, k f = some res → ts_VV X p l e R s m args below meth c nL Q f) {o : Int} {t : Nat} (hd : decode cc pc = .ok (.if_icmp .eq o, 3)) (ht : (pc : Int) + o = (t : Int)) (h0 : ts_o2 st (fun x y r => if x = y then k (t, lo, r, σ) else k (pc + 3, lo, r, σ)) = some res) : ts_VV X p l e R s m args below meth c nL Q (pc, lo, st, σ) := by
  obtain ⟨x, y, r, rfl, h⟩ := ts_o2_i h0
  exact fun H locs ls hP hS hL => lv_icmp_eq C.1 C.2.1 hd ht (fun q => hk (t, lo, r, σ) (by rw [if_pos q] at h; exact h) H locs ls hP hS hL) (fun q => hk (pc + 3, lo, r, σ) (by rw [if_neg q] at h; exact h) H locs ls hP hS hL)
theorem tk_ifCond_ne (C : ts_Cx X p s m args meth c cc nL own Ts) (hk : ∀ f, k f = some res → ts_VV X p l e R s m args below meth c nL Q f) {o : Int} {t : Nat} (hd : decode cc pc = .ok (.ifCond .ne o, 3)) (ht : (pc : Int) + o = (t : Int)) (h0 : ts_o1 st (fun x r => if x = 0 then k (pc + 3, lo, r, σ) else k (t, lo, r, σ)) = some res) : ts_VV X p l e R s m args below meth c nL Q (pc, lo, st, σ) := by
  obtain ⟨x, r, rfl, h⟩ := ts_o1_i h0
  exact fun H locs ls hP hS hL => lv_if_ne C.1 C.2.1 hd ht (fun q => hk (t, lo, r, σ) (by rw [if_neg q] at h; exact h) H locs ls hP hS hL) (fun q => hk (pc + 3, lo, r, σ) (by rw [if_pos q] at h; exact h) H locs ls hP hS hL)
theorem tk_if_icmp_ne (C : ts_Cx X p s m args meth c cc nL own Ts) (hk : ∀ f, k f = some res → ts_VV X p l e R s m args below meth c nL Q f) {o : Int} {t : Nat} (hd : decode cc pc = .ok (.if_icmp .ne o, 3)) (ht : (pc : Int) + o = (t : Int)) (h0 : ts_o2 st (fun x y r => if x = y then k (pc + 3, lo, r, σ) else k (t, lo, r, σ)) = some res) : ts_VV X p l e R s m args below meth c nL Q (pc, lo, st, σ) := by
  obtain ⟨x, y, r, rfl, h⟩ := ts_o2_i h0
  exact fun H locs ls hP hS hL => lv_icmp_ne C.1 C.2.1 hd ht (fun q => hk (t, lo, r, σ) (by rw [if_neg q] at h; exact h) H locs ls hP hS hL) (fun q => hk (pc + 3, lo, r, σ) (by rw [if_pos q] at h; exact h) H locs ls hP hS hL)
theorem tk_ifCond_lt (C : ts_Cx X p s m args meth c cc nL own Ts) (hk : ∀ f, k f = some res → ts_VV X p l e R s m args below meth c nL Q f) {o : Int} {t : Nat} (hd : decode cc pc = .ok (.ifCond .lt o, 3)) (ht : (pc : Int) + o = (t : Int)) (h0 : ts_o1 st (fun x r => if x < 0 then k (t, lo, r, σ) else k (pc + 3, lo, r, σ)) = some res) : ts_VV X p l e R s m args below meth c nL Q (pc, lo, st, σ) := by
  obtain ⟨x, r, rfl, h⟩ := ts_o1_i h0
  exact fun H locs ls hP hS hL => lv_if_lt C.1 C.2.1 hd ht (fun q => hk (t, lo, r, σ) (by rw [if_pos q] at h; exact h) H locs ls hP hS hL) (fun q => hk (pc + 3, lo, r, σ) (by rw [if_neg q] at h; exact h) H locs ls hP hS hL)
theorem tk_if_icmp_lt (C : ts_Cx X p s m args meth c cc nL own Ts) (hk : ∀ f, k f = some res → ts_VV X p l e R s m args below meth c nL Q f) {o : Int} {t : Nat} (hd : decode cc pc = .ok (.if_icmp .lt o, 3)) (ht : (pc : Int) + o = (t : Int)) (h0 : ts_o2 st (fun x y r => if x < y then k (t, lo, r, σ) else k (pc + 3, lo, r, σ)) = some res) : ts_VV X p l e R s m args below meth c nL Q (pc, lo, st, σ) := by
  obtain ⟨x, y, r, rfl, h⟩ := ts_o2_i h0
  exact fun H locs ls hP hS hL => lv_icmp_lt C.1 C.2.1 hd ht (fun q => hk (t, lo, r, σ) (by rw [if_pos q] at h; exact h) H locs ls hP hS hL) (fun q => hk (pc + 3, lo, r, σ) (by rw [if_neg q] at h; exact h) H locs ls hP hS hL)
theorem tk_ifCond_ge (C : ts_Cx X p s m args meth c cc nL own Ts) (hk : ∀ f, k f = some res → ts_VV X p l e R s m args below meth c nL Q f) {o : Int} {t : Nat} (hd : decode cc pc = .ok (.ifCond .ge o, 3)) (ht : (pc : Int) + o = (t : Int)) (h0 : ts_o1 st (fun x r => if 0 ≤ x then k (t, lo, r, σ) else k (pc + 3, lo, r, σ)) = some res) : ts_VV X p l e R s m args below meth c nL Q (pc, lo, st, σ) := by
  obtain ⟨x, r, rfl, h⟩ := ts_o1_i h0
  exact fun H locs ls hP hS hL => lv_if_ge C.1 C.2.1 hd ht (fun q => hk (t, lo, r, σ) (by rw [if_pos q] at h; exact h) H locs ls hP hS hL) (fun q => hk (pc + 3, lo, r, σ) (by rw [if_neg q] at h; exact h) H locs ls hP hS hL)
theorem tk_if_icmp_ge (C : ts_Cx X p s m args meth c cc nL own Ts) (hk : ∀ f, k f = some res → ts_VV X p l e R s m args below meth c nL Q f) {o : Int} {t : Nat} (hd : decode cc pc = .ok (.if_icmp .ge o, 3)) (ht : (pc : Int) + o = (t : Int)) (h0 : ts_o2 st (fun x y r => if y ≤ x then k (t, lo, r, σ) else k (pc + 3, lo, r, σ)) = some res) : ts_VV X p l e R s m args below meth c nL Q (pc, lo, st, σ) := by
  obtain ⟨x, y, r, rfl, h⟩ := ts_o2_i h0
  exact fun H locs ls hP hS hL => lv_icmp_ge C.1 C.2.1 hd ht (fun q => hk (t, lo, r, σ) (by rw [if_pos q] at h; exact h) H locs ls hP hS hL) (fun q => hk (pc + 3, lo, r, σ) (by rw [if_neg q] at h; exact h) H locs ls hP hS hL)
theorem tk_ifCond_gt (C : ts_Cx X p s m args meth c cc nL own Ts) (hk : ∀ f, k f = some res → ts_VV X p l e R s m args below meth c nL Q f) {o : Int} {t : Nat} (hd : decode cc pc = .ok (.ifCond .gt o, 3)) (ht : (pc : Int) + o = (t : Int)) (h0 : ts_o1 st (fun x r => if 0 < x then k (t, lo, r, σ) else k (pc + 3, lo, r, σ)) = some res) : ts_VV X p l e R s m args below meth c nL Q (pc, lo, st, σ) := by
  obtain ⟨x, r, rfl, h⟩ := ts_o1_i h0
  exact fun H locs ls hP hS hL => lv_if_gt C.1 C.2.1 hd ht (fun q => hk (t, lo, r, σ) (by rw [if_pos q] at h; exact h) H locs ls hP hS hL) (fun q => hk (pc + 3, lo, r, σ) (by rw [if_neg q] at h; exact h) H locs ls hP hS hL)
theorem tk_if_icmp_gt (C : ts_Cx X p s m args meth c cc nL own Ts) (hk : ∀ f, k f = some res → ts_VV X p l e R s m args below meth c nL Q f) {o : Int} {t : Nat} (hd : decode cc pc = .ok (.if_icmp .gt o, 3)) (ht : (pc : Int) + o = (t : Int)) (h0 : ts_o2 st (fun x y r => if y < x then k (t, lo, r, σ) else k (pc + 3, lo, r, σ)) = some res) : ts_VV X p l e R s m args below meth c nL Q (pc, lo, st, σ) := by
  obtain ⟨x, y, r, rfl, h⟩ := ts_o2_i h0
  exact fun H locs ls hP hS hL => lv_icmp_gt C.1 C.2.1 hd ht (fun q => hk (t, lo, r, σ) (by rw [if_pos q] at h; exact h) H locs ls hP hS hL) (fun q => hk (pc + 3, lo, r, σ) (by rw [if_neg q] at h; exact h) H locs ls hP hS hL)
theorem tk_ifCond_le (C : ts_Cx X p s m args meth c cc nL own Ts) (hk : ∀ f, k f = some res → ts_VV X p l e R s m args below meth c nL Q f) {o : Int} {t : Nat} (hd : decode cc pc = .ok (.ifCond .le o, 3)) (ht : (pc : Int) + o = (t : Int)) (h0 : ts_o1 st (fun x r => if x ≤ 0 then k (t, lo, r, σ) else k (pc + 3, lo, r, σ)) = some res) : ts_VV X p l e R s m args below meth c nL Q (pc, lo, st, σ) := by
  obtain ⟨x, r, rfl, h⟩ := ts_o1_i h0
  exact fun H locs ls hP hS hL => lv_if_le C.1 C.2.1 hd ht (fun q => hk (t, lo, r, σ) (by rw [if_pos q] at h; exact h) H locs ls hP hS hL) (fun q => hk (pc + 3, lo, r, σ) (by rw [if_neg q] at h; exact h) H locs ls hP hS hL)
theorem tk_if_icmp_le (C : ts_Cx X p s m args meth c cc nL own Ts) (hk : ∀ f, k f = some res → ts_VV X p l e R s m args below meth c nL Q f) {o : Int} {t : Nat} (hd : decode cc pc = .ok (.if_icmp .le o, 3)) (ht : (pc : Int) + o = (t : Int)) (h0 : ts_o2 st (fun x y r => if x ≤ y then k (t, lo, r, σ) else k (pc + 3, lo, r, σ)) = some res) : ts_VV X p l e R s m args below meth c nL Q (pc, lo, st, σ) := by
  obtain ⟨x, y, r, rfl, h⟩ := ts_o2_i h0
  exact fun H locs ls hP hS hL => lv_icmp_le C.1 C.2.1 hd ht (fun q => hk (t, lo, r, σ) (by rw [if_pos q] at h; exact h) H locs ls hP hS hL) (fun q => hk (pc + 3, lo, r, σ) (by rw [if_neg q] at h; exact h) H locs ls hP hS hL)
theorem tk_goto (C : ts_Cx X p s m args meth c cc nL own Ts) (hk : ∀ f, k f = some res → ts_VV X p l e R s m args below meth c nL Q f) {o : Int} {t : Nat} (hd : decode cc pc = .ok (.goto o, 3)) (ht : (pc : Int) + o = (t : Int)) (h : k (t, lo, st, σ) = some res) : ts_VV X p l e R s m args below meth c nL Q (pc, lo, st, σ) :=
  fun H locs ls hP hS hL => lv_goto C.1 C.2.1 hd ht (hk _ h H locs ls hP hS hL)
end TSK
end
section
/-! fields, rows, switches, answers, calls -/
def ts_TT (k : Nat) : u_T := match k with
  | 0 => TX1
  | 1 => TX2
  | 2 => TX3
  | 3 => TX4
  | _ => TX5
def ts_NN (k : Nat) : Nat := match k with
  | 0 => 15
  | 1 => 3
  | 2 => 6
  | 3 => 7
  | _ => 21
def ts_ty (k : Nat) : Nat → FieldType := match k with
  | 0 => tyX1
  | 1 => tyX2
  | 2 => tyX3
  | 3 => tyX4
  | _ => tyX5
theorem ts_vc_at {k : Nat} (h : k < 5) : ts_vc[k]? = some (ts_cn k, ts_TT k, ts_NN k) := by
  match k, h with
  | 0, _ => rfl
  | 1, _ => rfl
  | 2, _ => rfl
  | 3, _ => rfl
  | 4, _ => rfl
theorem ts_fl_len {k : Nat} (h : k < 5) : (ts_fl k).length = ts_NN k := by
  match k, h with
  | 0, _ => rfl
  | 1, _ => rfl
  | 2, _ => rfl
  | 3, _ => rfl
  | 4, _ => rfl
theorem ts_ty_ok {k : Nat} (h : k < 5) : ∀ j, j < ts_NN k → parseFieldDescriptor (ts_TT k j).2.2.1 = some (ts_ty k j) := by
  match k, h with
  | 0, _ => exact tyX1_ok
  | 1, _ => exact tyX2_ok
  | 2, _ => exact tyX3_ok
  | 3, _ => exact tyX4_ok
  | 4, _ => exact tyX5_ok
theorem ts_nm_ok {k : Nat} (h : k < 5) : ∀ a, a < ts_NN k → ∀ b, b < ts_NN k → a ≠ b → (ts_TT k a).2.1 ≠ (ts_TT k b).2.1 := by
  match k, h with
  | 0, _ => exact nmX1
  | 1, _ => exact nmX2
  | 2, _ => exact nmX3
  | 3, _ => exact nmX4
  | 4, _ => exact nmX5
/-- the fields' words lie in the tables -/
def ts_lw (k : Nat) : List Cond := u_ws (ts_cn k) (ts_TT k) (ts_NN k)
set_option maxRecDepth 20000 in
theorem ts_lw_in {k : Nat} (h : k < 5) : ∀ w ∈ ts_lw k, w ∈ ts_TB := by
  have g : ∀ k, k < 5 → (ts_lw k).all goodWord = true := by decide +kernel
  have i : ∀ k, k < 5 → (ts_lw k).all (fun w => tables_1_1.contains w || (tables_1_4.contains w || (tables_1_2.contains w || (tables_1_3.contains w || tables_1_5.contains w)))) = true := by decide +kernel
  intro w hw
  have h2 := List.all_eq_true.mp (i k h) w hw
  refine List.mem_filter.mpr ⟨?_, List.all_eq_true.mp (g k h) w hw⟩
  simp only [Bool.or_eq_true, List.contains_iff_mem] at h2
  unfold lw_tbl tables_1
  simp only [List.mem_append]
  rcases h2 with h2 | h2 | h2 | h2 | h2 <;> simp [h2]
end
section
/-! fields, rows, switches, answers, calls: the steps -/
theorem ts_al_lt {g c : Nat} {x : Option Nat} (h : (ts_al (ts_kd g))[c]? = some x) : g < 7 := by
  rcases Nat.lt_or_ge g 7 with q | q
  · exact q
  · have e : ts_kd g = 9 := by
      unfold ts_kd
      split <;> omega
    rw [e] at h
    cases c <;> cases h
section TSH
variable {X : ts_X} {p : Program} {l : Launch} {e : Env} {R : Room} {s : State} {m : MethodId} {args : Array Value} {below : List Frame} {meth : Method} {c : Code} {cc : ByteArray} {nL : Nat} {own : String} {Ts : List Cond} {Q : State → Prop} {pc : Nat} {lo : ts_L} {st : List ts_V} {σ : ts_S} {k : ts_K} {res : ts_A}
theorem tk_getfield (C : ts_Cx X p s m args meth c cc nL own Ts) (hk : ∀ f, k f = some res → ts_VV X p l e R s m args below meth c nL Q f) {j a b : Nat} (hd : decode cc pc = .ok (.getfield j, 3)) (ha : a < 5) (hw : Cond.fieldLink own j (ts_TT a b).1 (ts_TT a b).2.1 (ts_TT a b).2.2.1 ∈ ts_TB) (h0 : ts_r1 st (fun g c r => cond (c == 0 && ts_kd g == a) (ts_gf σ g b ((ts_fl a)[b]?) fun v => k (pc + 3, lo, v :: r, σ)) none) = some res) : ts_VV X p l e R s m args below meth c nL Q (pc, lo, st, σ) := by
  obtain ⟨g, c', r, rfl, h⟩ := ts_r1_i h0
  obtain ⟨h1, h2⟩ := ts_cond_i h
  simp only [Bool.and_eq_true, beq_iff_eq] at h1
  obtain ⟨rfl, rfl⟩ := h1
  have hg := ts_kd_lt rfl ha
  intro H locs ls hP hS hL
  obtain ⟨q, hq, hqw⟩ := ts_at X σ (ts_cell_obj hg)
  rcases ts_gf_i h2 with ⟨ho, h3⟩ | ⟨dg, c2, ho, h3⟩
  · exact va_get (D := X.1) (ci := ts_kd g) (v := .int (σ g 0 b)) C.1 C.2.1 C.2.2.2.2.1 (fun w hw => C.2.2.2.2.2.1 w (ts_lw_in ha w hw)) C.2.2.2.1 C.2.2.2.2.2.2.1.1 hP q hqw (ts_vc_at ha) b (by rw [← ts_fl_len ha]; exact (List.getElem?_eq_some_iff.mp ho).1) (C.2.2.2.2.1 _ (C.2.2.2.2.2.1 _ hw)) (fun _ h9 => h9) (ts_fs_at X σ ho) hd (hk _ h3 H locs ls hP hS hL)
  · exact va_get (D := X.1) (ci := ts_kd g) (v := .ref (X.2.1 (g + dg) c2)) C.1 C.2.1 C.2.2.2.2.1 (fun w hw => C.2.2.2.2.2.1 w (ts_lw_in ha w hw)) C.2.2.2.1 C.2.2.2.2.2.2.1.1 hP q hqw (ts_vc_at ha) b (by rw [← ts_fl_len ha]; exact (List.getElem?_eq_some_iff.mp ho).1) (C.2.2.2.2.1 _ (C.2.2.2.2.2.1 _ hw)) (fun _ h9 => h9) (ts_fs_at X σ ho) hd (hk _ h3 H locs ls hP hS hL)
theorem tk_putfield (C : ts_Cx X p s m args meth c cc nL own Ts) (hk : ∀ f, k f = some res → ts_VV X p l e R s m args below meth c nL Q f) {j a b g c' : Nat} {x : Int32} {r : List ts_V} (hs : st = .inl x :: .inr (.inr (.inl (g, c'))) :: r) (hd : decode cc pc = .ok (.putfield j, 3)) (ha : a < 5) (hw : Cond.fieldLink own j (ts_TT a b).1 (ts_TT a b).2.1 (ts_TT a b).2.2.1 ∈ ts_TB) (hfin : (ts_TT a b).2.2.2 = false) (hty : ts_ty a b = .int ∨ (ts_ty a b = .boolean ∧ (x = 0 ∨ x = 1)))
    (h1 : (c' == 0 && ts_kd g == a) = true) (ho : (ts_fl a)[b]? = some none) (h : k (pc + 3, lo, r, ts_up σ g 0 b x) = some res) : ts_VV X p l e R s m args below meth c nL Q (pc, lo, st, σ) := by
  subst hs
  simp only [Bool.and_eq_true, beq_iff_eq] at h1
  obtain ⟨rfl, rfl⟩ := h1
  have hg := ts_kd_lt rfl ha
  have hb : b < ts_NN (ts_kd g) := by rw [← ts_fl_len ha]; exact (List.getElem?_eq_some_iff.mp ho).1
  have hn : narrow (ts_ty (ts_kd g) b) (.int x) = .int x ∧ fits (ts_ty (ts_kd g) b) (.int x) = true := by
    rcases hty with e | ⟨e, rfl | rfl⟩ <;> rw [e]
    · exact ⟨rfl, rfl⟩
    · exact ⟨by decide, by decide⟩
    · exact ⟨by decide, by decide⟩
  intro H locs ls hP hS hL
  obtain ⟨q, hq, hqw⟩ := ts_at X σ (ts_cell_obj hg)
  refine va_put (D := X.1) (ci := ts_kd g) (v := .int x) (ty := ts_ty (ts_kd g) b) C.1 C.2.1 C.2.2.2.2.1 (fun w hw => C.2.2.2.2.2.1 w (ts_lw_in ha w hw)) (ts_ty (ts_kd g)) (ts_ty_ok ha) (ts_nm_ok ha) C.2.2.2.1 C.2.2.2.2.2.2.1.1 hP (C.2.2.2.2.2.2.2.1 σ) hS q hqw (ts_vc_at ha) b hb (C.2.2.2.2.1 _ (C.2.2.2.2.2.1 _ hw)) (fun _ h9 => h9) hfin (ts_ty_ok ha b hb) hn.1 hn.2 (by simp only [ts_fs, List.length_map, List.length_zipIdx]; exact (List.getElem?_eq_some_iff.mp ho).1) hd (fun H1 locs1 hP1 _ hS1 => ?_)
  rw [ts_set X (σ' := ts_up σ g 0 b x) hq (by show Sum.inr (ts_kd g, ts_fs X (ts_up σ g 0 b x) g) = _; rw [ts_fs_set X σ x ho]) (ts_put_o σ g 0 _)] at hP1
  exact hk _ h H1 locs1 ls hP1 hS1 hL
theorem tk_iaload (C : ts_Cx X p s m args meth c cc nL own Ts) (hk : ∀ f, k f = some res → ts_VV X p l e R s m args below meth c nL Q f) (hd : decode cc pc = .ok (.iaload, 1)) (h0 : ts_r2 st (fun j g c r => ts_an (ts_kd g) c fun n => ts_ck j n (k (pc + 1, lo, .inl (σ g c j.toNatClampNeg) :: r, σ))) = some res) : ts_VV X p l e R s m args below meth c nL Q (pc, lo, st, σ) := by
  obtain ⟨j, g, c', r, rfl, h⟩ := ts_r2_i h0
  obtain ⟨n, hn, h⟩ := ts_an_i h
  obtain ⟨hin, h⟩ := ts_ck_i h
  obtain ⟨hc, hc0⟩ := ts_cell_row (ts_al_lt hn) hn
  intro H locs ls hP hS hL
  obtain ⟨q, hq, hqw⟩ := ts_at X σ hc
  rw [ts_en_row X σ hc0 hn] at hqw
  exact va_iald (D := X.1) C.1 C.2.1 C.2.2.2.2.2.2.1.1 hP q 0 hqw rfl hin hd (hk _ h H locs ls hP hS hL)
theorem tk_iastore (C : ts_Cx X p s m args meth c cc nL own Ts) (hk : ∀ f, k f = some res → ts_VV X p l e R s m args below meth c nL Q f) (hd : decode cc pc = .ok (.iastore, 1)) (h0 : ts_r3 st (fun x j g c r => ts_an (ts_kd g) c fun n => ts_ck j n (k (pc + 1, lo, r, ts_up σ g c j.toNatClampNeg x))) = some res) : ts_VV X p l e R s m args below meth c nL Q (pc, lo, st, σ) := by
  obtain ⟨x, j, g, c', r, rfl, h⟩ := ts_r3_i h0
  obtain ⟨n, hn, h⟩ := ts_an_i h
  obtain ⟨hin, h⟩ := ts_ck_i h
  obtain ⟨hc, hc0⟩ := ts_cell_row (ts_al_lt hn) hn
  intro H locs ls hP hS hL
  obtain ⟨q, hq, hqw⟩ := ts_at X σ hc
  rw [ts_en_row X σ hc0 hn] at hqw
  refine va_iast (D := X.1) C.1 C.2.1 C.2.2.2.2.2.2.1.1 hP (C.2.2.2.2.2.2.2.1 σ) hS q 0 hqw rfl hin hd (fun H1 locs1 hP1 _ hS1 => ?_)
  rw [ts_set X (σ' := ts_up σ g c' j.toNatClampNeg x) hq (by rw [ts_en_row X _ hc0 hn, ts_up, ts_put_s]) (ts_put_o σ g c' _)] at hP1
  exact hk _ h H1 locs1 ls hP1 hS1 hL
theorem tk_aaload (C : ts_Cx X p s m args meth c cc nL own Ts) (hk : ∀ f, k f = some res → ts_VV X p l e R s m args below meth c nL Q f) (hd : decode cc pc = .ok (.aaload, 1)) (h0 : ts_r2 st (fun j g c r => cond (g == 6 && c == 6) (ts_ck j 7 (k (pc + 1, lo, .inr (.inr (.inr j.toNatClampNeg)) :: r, σ))) none) = some res) : ts_VV X p l e R s m args below meth c nL Q (pc, lo, st, σ) := by
  obtain ⟨j, g, c', r, rfl, h⟩ := ts_r2_i h0
  obtain ⟨h1, h⟩ := ts_cond_i h
  simp only [Bool.and_eq_true, beq_iff_eq] at h1
  obtain ⟨rfl, rfl⟩ := h1
  obtain ⟨hin, h⟩ := ts_ck_i h
  intro H locs ls hP hS hL
  obtain ⟨q, hq, hqw⟩ := ts_at X σ (g := 6) (c := 6) (by decide)
  exact va_aldq (D := X.1) (C := "java/lang/String") C.1 C.2.1 C.2.2.2.2.2.2.1.1 hP q 1 hqw rfl hin hd (hk _ h H locs ls hP hS hL)
theorem tk_arraylength (C : ts_Cx X p s m args meth c cc nL own Ts) (hk : ∀ f, k f = some res → ts_VV X p l e R s m args below meth c nL Q f) (hd : decode cc pc = .ok (.arraylength, 1)) (h0 : ts_r1 st (fun g c r => match (ts_al (ts_kd g))[c]? with
    | some (some n) => k (pc + 1, lo, .inl (Int32.ofNat n) :: r, σ)
    | _ => cond (g == 6 && c == 6) (k (pc + 1, lo, .inl 7 :: r, σ)) none) = some res) : ts_VV X p l e R s m args below meth c nL Q (pc, lo, st, σ) := by
  obtain ⟨g, c', r, rfl, h⟩ := ts_r1_i h0
  intro H locs ls hP hS hL
  split at h
  · next n hn =>
    obtain ⟨hc, hc0⟩ := ts_cell_row (ts_al_lt hn) hn
    obtain ⟨q, hq, hqw⟩ := ts_at X σ hc
    rw [ts_en_row X σ hc0 hn] at hqw
    exact va_alen (D := X.1) C.1 C.2.1 C.2.2.2.2.2.2.1.1 hP q 0 hqw (ty := .int) rfl rfl hd (hk _ h H locs ls hP hS hL)
  · obtain ⟨h1, h⟩ := ts_cond_i h
    simp only [Bool.and_eq_true, beq_iff_eq] at h1
    obtain ⟨rfl, rfl⟩ := h1
    obtain ⟨q, hq, hqw⟩ := ts_at X σ (g := 6) (c := 6) (by decide)
    exact va_alen (D := X.1) C.1 C.2.1 C.2.2.2.2.2.2.1.1 hP q 1 hqw (ty := .object "java/lang/String") rfl rfl hd (hk _ h H locs ls hP hS hL)
/-! String constants -/
theorem tk_ldcS (C : ts_Cx X p s m args meth c cc nL own Ts) (hk : ∀ f, k f = some res → ts_VV X p l e R s m args below meth c nL Q f) {j i : Nat} {tx : String} (hd : decode cc pc = .ok (.ldc j, 2)) (hw : (own, j, tx, i) ∈ ts_sr) (h : k (pc + 2, lo, .inr (.inr (.inr i)) :: st, σ) = some res) : ts_VV X p l e R s m args below meth c nL Q (pc, lo, st, σ) :=
  fun H locs ls hP hS hL => va_ldcS C.1 C.2.1 C.2.2.2.1 (C.2.2.2.2.2.2.1.2.2.1 _ hw) hd (hk _ h H locs ls hP hS hL)
theorem ts_ldcwS {T : State} {locs : List Loc} {cells slots : Nat} (Z : Stand p l e R s m args below meth c T locs cells slots) (hexec : p.tables.exec = Jvm.exec) {own text : String} {index : Nat} {a : Addr} (hown : s.vm.findClass own = some m.cls)
    (hconst : (Cond.stringRef own index text).before args s = true) (hev : (Term.string own index).eval args s none [] s = some (.ref a)) {g : JFrame} (hg : g.method = m) (hdg : decode c.code g.pc = .ok (.ldc_w index, 3)) :
    ∀ target, Steps p.tables e below (T.setTop { g with pc := g.pc + 3, stack := .ref a :: g.stack }) target → Steps p.tables e below (T.setTop g) target := by
  obtain ⟨k, cf, i, a', hk, hcf, hcp, -, hr, hev'⟩ := Cond.stringRef_spec hown hconst
  cases hev.symm.trans hev'
  obtain ⟨k', hk', he⟩ := Z.warmed.alike.2.2 _ _ hk
  have hr' : k'.resolved[index]? = some (some (.string a)) := by
    rcases Z.warmed.entry hk hk' index with h | ⟨h, -⟩
    · rw [h]; exact hr
    · rw [hr] at h; cases h
  intro target hrest
  subst hg
  jvm_step Z.here [hexec, hdg, ldc_w.wp_string (e := e) (s := T) (f := g) Z.here.top hk' (by rw [he]; exact hcf) hcp hr']
  exact hrest
theorem tk_ldcwS (C : ts_Cx X p s m args meth c cc nL own Ts) (hk : ∀ f, k f = some res → ts_VV X p l e R s m args below meth c nL Q f) {j i : Nat} {tx : String} (hd : decode cc pc = .ok (.ldc_w j, 3)) (hw : (own, j, tx, i) ∈ ts_sr) (h : k (pc + 3, lo, .inr (.inr (.inr i)) :: st, σ) = some res) : ts_VV X p l e R s m args below meth c nL Q (pc, lo, st, σ) := by
  intro H locs ls hP hS hL T hT Z
  obtain ⟨t, a1, b1⟩ := hk _ h H locs ls hP hS hL T hT Z
  have hZ := C.2.2.2.2.2.2.1.2.2.1 _ hw
  exact ⟨t, ts_ldcwS Z C.1 C.2.2.2.1 (text := tx) (a := X.2.2.1 i) hZ.1 hZ.2 (g := F0 m pc ls (st.map (ts_tr X))) rfl (by rw [C.2.1]; exact hd) t a1, b1⟩
/-! switches -/
def ts_tok (pc : Nat) : Nat → List Int → List (Nat × Nat) → Bool
  | _, [], [] => true
  | v, o :: os, (u, t) :: ps => (v == u && decide ((pc : Int) + o = (t : Int))) && ts_tok pc (v + 1) os ps
  | _, _, _ => false
theorem ts_tok_i {pc d : Nat} {x : Int32} {f : Nat → Option ts_A} {a : ts_A} : ∀ (os : List Int) (ps : List (Nat × Nat)) (v : Nat), ts_tok pc v os ps = true → ts_sw x d f ps = some a →
    (∃ j o t, os[j]? = some o ∧ x = Int32.ofNat (v + j) ∧ (pc : Int) + o = ((t : Nat) : Int) ∧ f t = some a) ∨ ((∀ j, j < os.length → ¬ x = Int32.ofNat (v + j)) ∧ f d = some a)
  | [], [], v, _, h => Or.inr ⟨fun j hj => absurd hj (Nat.not_lt_zero j), h⟩
  | [], _ :: _, v, hk, h => by cases hk
  | _ :: _, [], v, hk, h => by cases hk
  | o :: os, (u, t) :: ps, v, hk, h => by
    simp only [ts_tok, Bool.and_eq_true, beq_iff_eq, decide_eq_true_eq] at hk
    obtain ⟨⟨rfl, ht⟩, hk⟩ := hk
    by_cases hx : x = Int32.ofNat v
    · rw [ts_sw, if_pos hx] at h
      exact Or.inl ⟨0, o, t, rfl, hx, ht, h⟩
    · rw [ts_sw, if_neg hx] at h
      rcases ts_tok_i os ps (v + 1) hk h with ⟨j, o', t', h1, h2, h3, h4⟩ | ⟨h1, h2⟩
      · exact Or.inl ⟨j + 1, o', t', h1, by rw [h2]; congr 1; omega, h3, h4⟩
      · refine Or.inr ⟨fun j hj => ?_, h2⟩
        cases j with
        | zero => exact hx
        | succ j =>
          have := h1 j (by simpa using hj)
          intro e
          exact this (by rw [e]; congr 1; omega)
theorem tk_tableswitch (C : ts_Cx X p s m args meth c cc nL own Ts) (hk : ∀ f, k f = some res → ts_VV X p l e R s m args below meth c nL Q f) {d lw hi : Int} {offs : Array Int} {len v t : Nat} {ps : List (Nat × Nat)} (hd : decode cc pc = .ok (.tableswitch d lw hi offs, len)) (hv : lw = (v : Int)) (hh : hi = lw + (offs.size : Int) - 1) (hs : v + offs.size < 2 ^ 31) (ht : (pc : Int) + d = (t : Int)) (hok : ts_tok pc v offs.toList ps = true)
    (h0 : ts_o1 st (fun x r => ts_sw x t (fun u => k (u, lo, r, σ)) ps) = some res) : ts_VV X p l e R s m args below meth c nL Q (pc, lo, st, σ) := by
  obtain ⟨x, r, rfl, h⟩ := ts_o1_i h0
  intro H locs ls hP hS hL
  rcases ts_tok_i offs.toList ps v hok h with ⟨j, o, u, h1, h2, h3, h4⟩ | ⟨h1, h2⟩
  · have hj : j < offs.size := by
      have := (List.getElem?_eq_some_iff.mp h1).1
      simpa using this
    have hx : x.toInt = (v : Int) + (j : Int) := by
      rw [h2]
      have := nI_toInt (n := v + j) (by omega)
      rw [nI] at this
      rw [this]; omega
    refine lv_tableIn C.1 C.2.1 hd (off := o) (tgt := u) (by omega) (by omega) ?_ h3 (hk _ h4 H locs ls hP hS hL)
    have e : (x.toInt - lw).toNat = j := by omega
    rw [e, ← Array.getElem?_toList]; exact h1
  · refine lv_tableOut C.1 C.2.1 hd (tgt := t) ?_ ht (hk _ h2 H locs ls hP hS hL)
    rcases Int.lt_or_le x.toInt lw with q | q
    · exact Or.inl q
    · rcases Int.lt_or_le hi x.toInt with q2 | q2
      · exact Or.inr q2
      · exfalso
        refine h1 (x.toInt - lw).toNat (by simp; omega) ?_
        apply Int32.toInt_inj.mp
        have := nI_toInt (n := v + (x.toInt - lw).toNat) (by omega)
        rw [nI] at this
        rw [this]; omega
def ts_lok (pc : Nat) : List (Int × Int) → List (Nat × Nat) → Bool
  | [], [] => true
  | (a, o) :: os, (u, t) :: ps => (decide (a = (u : Int)) && (decide (u < 2 ^ 31) && decide ((pc : Int) + o = (t : Int)))) && ts_lok pc os ps
  | _, _ => false
theorem ts_lok_i {pc d : Nat} {x : Int32} {f : Nat → Option ts_A} {a : ts_A} {dl : Int} (hd : (pc : Int) + dl = (d : Int)) : ∀ (os : List (Int × Int)) (ps : List (Nat × Nat)), ts_lok pc os ps = true → ts_sw x d f ps = some a →
    ∃ t : Nat, (pc : Int) + Op.lookupswitch.offset os dl x.toInt = (t : Int) ∧ f t = some a
  | [], [], _, h => ⟨d, hd, h⟩
  | [], _ :: _, hk, h => by cases hk
  | _ :: _, [], hk, h => by cases hk
  | (b, o) :: os, (u, t) :: ps, hk, h => by
    simp only [ts_lok, Bool.and_eq_true, decide_eq_true_eq] at hk
    obtain ⟨⟨rfl, hu, ht⟩, hk⟩ := hk
    have e : (Int32.ofNat u).toInt = (u : Int) := nI_toInt hu
    by_cases hx : x = Int32.ofNat u
    · rw [ts_sw, if_pos hx] at h
      refine ⟨t, ?_, h⟩
      rw [Op.lookupswitch.offset_cons, if_pos (by rw [hx, e])]
      exact ht
    · rw [ts_sw, if_neg hx] at h
      obtain ⟨t', h1, h2⟩ := ts_lok_i hd os ps hk h
      refine ⟨t', ?_, h2⟩
      rw [lv_osw hx e]
      exact h1
theorem tk_lookupswitch (C : ts_Cx X p s m args meth c cc nL own Ts) (hk : ∀ f, k f = some res → ts_VV X p l e R s m args below meth c nL Q f) {d : Int} {prs : Array (Int × Int)} {len t : Nat} {ps : List (Nat × Nat)} (hd : decode cc pc = .ok (.lookupswitch d prs, len)) (hp : (prs.toList.zip (prs.toList.drop 1)).all (fun (a, next) => a.1 < next.1) = true) (ht : (pc : Int) + d = (t : Int)) (hok : ts_lok pc prs.toList ps = true)
    (h0 : ts_o1 st (fun x r => ts_sw x t (fun u => k (u, lo, r, σ)) ps) = some res) : ts_VV X p l e R s m args below meth c nL Q (pc, lo, st, σ) := by
  obtain ⟨x, r, rfl, h⟩ := ts_o1_i h0
  obtain ⟨u, h1, h2⟩ := ts_lok_i ht _ _ hok h
  exact fun H locs ls hP hS hL => lv_lookup C.1 C.2.1 hd hp rfl h1 (hk _ h2 H locs ls hP hS hL)
end TSH
end
section
/-! answers, calls -/
section TSR
variable {X : ts_X} {p : Program} {l : Launch} {e : Env} {R : Room} {s : State} {m : MethodId} {args : Array Value} {below : List Frame} {meth : Method} {c : Code} {cc : ByteArray} {nL : Nat} {own : String} {Ts : List Cond} {Q : State → Prop} {pc : Nat} {lo : ts_L} {st : List ts_V} {σ : ts_S} {k : ts_K} {res : ts_A}
theorem tk_ireturn (C : ts_Cx X p s m args meth c cc nL own Ts) (hr : meth.sig.returnType = some .int) {x : Int32} (hd : decode cc pc = .ok (.ireturn, 1)) : ts_VV X p l e R s m args below meth c nL (MQ below (ts_Po X (some (.inl x)) σ) args s 0 0 X.2.2.2.2.2.2) (pc, lo, [.inl x], σ) :=
  fun H locs ls hP hS hL => W.iret C.1 C.2.1 hr (fun t ht hW => ⟨rfl, by rw [ht]; exact hP, hS.F ht⟩) hS.2.2 hd C.2.2.2.2.2.2.2.2
theorem tk_zreturn (C : ts_Cx X p s m args meth c cc nL own Ts) (hr : meth.sig.returnType = some .boolean) {x : Int32} (hx : x = 0 ∨ x = 1) (hd : decode cc pc = .ok (.ireturn, 1)) : ts_VV X p l e R s m args below meth c nL (MQ below (ts_Po X (some (.inl x)) σ) args s 0 0 X.2.2.2.2.2.2) (pc, lo, [.inl x], σ) :=
  fun H locs ls hP hS hL => W.zret C.1 C.2.1 hr (by rcases hx with rfl | rfl <;> decide) (fun t ht hW => ⟨rfl, by rw [ht]; exact hP, hS.F ht⟩) hS.2.2 hd C.2.2.2.2.2.2.2.2
theorem tk_lreturn (C : ts_Cx X p s m args meth c cc nL own Ts) (hr : meth.sig.returnType = some .long) {x : Int64} (hd : decode cc pc = .ok (.lreturn, 1)) : ts_VV X p l e R s m args below meth c nL (MQ below (ts_Po X (some (.inr (.inl x))) σ) args s 0 0 X.2.2.2.2.2.2) (pc, lo, [.inr (.inl x)], σ) :=
  fun H locs ls hP hS hL => W.lret C.1 C.2.1 hr (fun t ht hW => ⟨rfl, by rw [ht]; exact hP, hS.F ht⟩) hS.2.2 hd C.2.2.2.2.2.2.2.2
theorem tk_areturn (C : ts_Cx X p s m args meth c cc nL own Ts) {nm : String} (hr : meth.sig.returnType = some (.object nm)) {x : (Nat × Nat) ⊕ Nat} (hd : decode cc pc = .ok (.areturn, 1)) : ts_VV X p l e R s m args below meth c nL (MQ below (ts_Po X (some (.inr (.inr x))) σ) args s 0 0 X.2.2.2.2.2.2) (pc, lo, [.inr (.inr x)], σ) := by
  intro H locs ls hP hS hL
  have ht : ∃ a, ts_tr X (.inr (.inr x)) = .ref a := by
    rcases x with ⟨g, c⟩ | x
    · exact ⟨_, rfl⟩
    · exact ⟨_, rfl⟩
  exact W.aret C.1 C.2.1 hr (Or.inl ⟨nm, rfl⟩) (Or.inr ht) (fun t ht hW => ⟨rfl, by rw [ht]; exact hP, hS.F ht⟩) hS.2.2 hd C.2.2.2.2.2.2.2.2
theorem tk_return (C : ts_Cx X p s m args meth c cc nL own Ts) (hr : meth.sig.returnType = none) (hd : decode cc pc = .ok (.return_, 1)) : ts_VV X p l e R s m args below meth c nL (MQ below (ts_Po X none σ) args s 0 0 X.2.2.2.2.2.2) (pc, lo, [], σ) :=
  fun H locs ls hP hS hL => W.vret C.1 C.2.1 hr (fun t ht hW => ⟨rfl, by rw [ht]; exact hP, hS.F ht⟩) hS.2.2 hd C.2.2.2.2.2.2.2.2
theorem ts_psh_map (X : ts_X) (r : Option ts_V) (rest : List ts_V) : (ts_psh r rest).map (ts_tr X) = (r.map (ts_tr X)).toList ++ rest.map (ts_tr X) := by
  cases r <;> rfl
/-- behind a call -/
theorem ts_go {H : Heap} {locs : List Loc} {ls : Array Slot} {st0 : List Value} {r : Option ts_V} {σ1 : ts_S} {rest : List ts_V} {a : Array Value} (hr : va_Run p l e R s m args below meth c H locs 0 0 0 0 (F0 m pc ls st0) (rest.map (ts_tr X)) (ts_Po X r σ1 a) X.2.2.2.2.2.2) (hS : va_S X.2.2.2.2.2.2 s.heap H locs)
    (kk : ∀ (H1 : Heap) (locs1 : List Loc), va_P X.1 ts_vc (ts_ws X σ1) H1 → va_S X.2.2.2.2.2.2 s.heap H1 locs1 → W p l e R s m args below meth c H1 locs1 0 0 Q (F0 m (pc + 3) ls ((ts_psh r rest).map (ts_tr X)))) : W p l e R s m args below meth c H locs 0 0 Q (F0 m pc ls st0) := by
  intro T hT Z
  obtain ⟨v, st₀, t, T', L, h0, Z', hL, e1, e2, ⟨hv, hp, hz, hk⟩, st⟩ := hr T hT Z
  have hv' : v = r.map (ts_tr X) := by injection hv
  subst hv'
  rw [h0] at hz hk
  obtain ⟨t2, a1, b1⟩ := kk T'.heap (locs ++ L) (by rw [e1]; exact hp)
    ⟨Nat.le_trans hS.1 (by rw [e1]; exact hz), fun q h1 h2 => by rw [e1, hk q (Nat.lt_of_lt_of_le h1 hS.1) h2]; exact hS.2.1 q h1 h2, fun q hq => by
      rcases List.mem_append.mp hq with h | h
      · exact hS.2.2 q h
      · exact hL q h⟩ T' rfl Z'
  rw [ts_psh_map] at a1
  exact ⟨t2, st t2 a1, b1⟩
theorem ts_good {mi : ts_M} (hi : ∀ w ∈ ts_TB, w ∈ Ts) (hc : Cond.code mi.1 mi.2.1 mi.2.2.1 mi.2.2.2.1 ∈ ts_TB) : GoodIn Ts (ts_wl mi) := by
  intro w hw
  have h : w ∈ ts_TB := by
    rcases List.mem_cons.mp hw with rfl | h
    · exact hc
    · exact h
  exact ⟨hi w h, good_of_word (List.mem_filter.mp h).2⟩
theorem ts_blind {as : List Value} : FrameBlind (va_Pc as (ts_Pr X σ)) := fun a U g mk q => ⟨q.1, q.2.1, ts_Y_call q.2.2⟩
theorem ts_pre (C : ts_Cx X p s m args meth c cc nL own Ts) {H : Heap} {locs : List Loc} (hP : va_P X.1 ts_vc (ts_ws X σ) H) (hS : va_S X.2.2.2.2.2.2 s.heap H locs) (as : List Value) : ∀ U : State, U.heap = H → s.WarmedH U.vm → va_Pc as (ts_Pr X σ) as.toArray U :=
  fun U hU hW => ⟨rfl, by rw [hU]; exact hP, ts_Y_to C.2.2.2.2.2.2.1 hW (fun q h1 h2 => by rw [hU]; exact hS.2.1 q h1 h2)⟩
theorem ts_sum_map (X : ts_X) : ∀ r : List ts_V, ((r.map (ts_tr X)).map fun v => v.category).sum = ts_sum r
  | [] => rfl
  | v :: r => by
    have := ts_sum_map X r
    simp only [List.map_cons, List.sum_cons, ts_tr_cat, ts_sum]
    rw [this]
theorem ts_fit {d d' : Nat} {n : Nat} (h : d' < d) (hn : n ≤ 20) : (ts_room d').frames + 1 ≤ (ts_room d).frames ∧ 8 + (n + 11) + (ts_room d').locals ≤ (ts_room d).locals := by
  refine ⟨h, ?_⟩
  show 8 + (n + 11) + 39 * d' ≤ 39 * d
  omega
theorem ts_recv (hY : ts_Y X s s.heap) {H : Heap} {locs : List Loc} (hP : va_P X.1 ts_vc (ts_ws X σ) H) (hS : va_S X.2.2.2.2.2.2 s.heap H locs) {t : Nat} (ht : t < 5 ∨ t = 8) {v : ts_V} {as : List ts_V} (h : ts_rc t (v :: as) = true) : ∃ a, ts_tr X v = .ref a ∧ ∃ cell : Cell, H[a]? = some cell ∧ cell.vm.isStatics = false ∧ s.vm.findClass (ts_cn t) = some cell.cls := by
  have h9 : ¬ t = 9 := by omega
  rcases v with x | x | ⟨g, c⟩ | j
  · simp [ts_rc, h9] at h
  · simp [ts_rc, h9] at h
  · simp only [ts_rc, Bool.or_eq_true, Bool.and_eq_true, beq_iff_eq, h9, or_false] at h
    obtain ⟨rfl, rfl⟩ := h
    have ha : ts_kd g < 5 := by
      rcases ht with h | h
      · exact h
      · exfalso
        have : ∀ g, ts_kd g ≠ 8 := by
          intro g
          unfold ts_kd
          split <;> decide
        exact this g h
    obtain ⟨q, hq, hqw⟩ := ts_at X σ (ts_cell_obj (ts_kd_lt rfl ha))
    exact ⟨_, rfl, va_recv hY.1 hP (ts_vc_at ha) hqw⟩
  · simp only [ts_rc, Bool.or_eq_true, Bool.and_eq_true, beq_iff_eq, h9, or_false] at h
    obtain ⟨rfl, hj⟩ := h
    obtain ⟨cell, h1, h2, h3, -⟩ := (hY.2.1 j (Nat.le_of_ble_eq_true hj)).1.kept hS.2.1
    exact ⟨_, rfl, cell, h1, h2, h3⟩
theorem ts_split (X : ts_X) {b : Nat} {v : ts_V} {as : List ts_V} (h : (st.take b).reverse = v :: as) : st.map (ts_tr X) = (as.map (ts_tr X)).reverse ++ ts_tr X v :: (st.drop b).map (ts_tr X) := by
  have e : st = as.reverse ++ v :: st.drop b := by
    have h1 : st.take b = as.reverse ++ [v] := by rw [← List.reverse_reverse (st.take b), h, List.reverse_cons]
    calc st = st.take b ++ st.drop b := (List.take_append_drop b st).symm
      _ = as.reverse ++ v :: st.drop b := by rw [h1]; simp
  have e2 := congrArg (List.map (ts_tr X)) e
  rw [List.map_append, List.map_cons, List.map_reverse] at e2
  exact e2
theorem ts_splitS (X : ts_X) {b : Nat} : st.map (ts_tr X) = (((st.take b).reverse).map (ts_tr X)).reverse ++ (st.drop b).map (ts_tr X) := by
  rw [List.map_reverse, List.reverse_reverse, ← List.map_append, List.take_append_drop]
theorem tk_virt {d : Nat} (C : ts_Cx X p s m args meth c cc nL own Ts) (hk : ∀ f, k f = some res → ts_VV X p l e (ts_room d) s m args below meth c nL Q f) {j b : Nat} {mi : ts_M} {S : List ts_V → ts_S → Option ts_A} (hc : ts_Cal X l d mi S) (ht : ¬ mi.2.2.2.2.2 = 9) (hb : b = mi.2.2.2.2.1 + 1) (hw : Cond.methodLink own j mi.1 ∈ ts_TB) (hd : decode cc pc = .ok (.invokevirtual j, 3)) (hlen : b ≤ st.length) (hsum : ts_sum (st.drop b) ≤ 8) (hrc : ts_rc mi.2.2.2.2.2 (st.take b).reverse = true)
    (h : (S (st.take b).reverse σ).bind (fun q => k (pc + 3, lo, ts_psh q.1 (st.drop b), q.2)) = some res) : ts_VV X p l e (ts_room d) s m args below meth c nL Q (pc, lo, st, σ) := by
  obtain ⟨⟨⟨hcode, hini⟩, hd1, hmx, hkind⟩, d', hdd, hM⟩ := hc
  cases hS' : S (st.take b).reverse σ with
  | none => rw [hS'] at h; cases h
  | some q =>
    obtain ⟨r, σ1⟩ := q
    rw [hS'] at h
    have h : k (pc + 3, lo, ts_psh r (st.drop b), σ1) = some res := h
    rcases hkind with ⟨e1, -⟩ | ⟨hlt, hcn, hinst, hsel⟩
    · exact absurd e1 ht
    have hlen2 : ((st.take b).reverse).length = b := by rw [List.length_reverse, List.length_take]; omega
    cases has : (st.take b).reverse with
    | nil => rw [has] at hlen2; simp at hlen2; omega
    | cons v as =>
      rw [has] at hrc hS' hlen2
      intro H locs ls hP hS hL
      obtain ⟨a, hv, cell, hc1, hc2, hc3⟩ := ts_recv C.2.2.2.2.2.2.1 hP hS hlt hrc
      have hMet := hM (v :: as) σ r σ1 hS'
      have tb : ∀ w ∈ ts_TB, w.before args s = true := fun w hw => C.2.2.2.2.1 w (C.2.2.2.2.2.1 w hw)
      have hnl : (as.map (ts_tr X)).length = mi.2.2.2.2.1 := by
        rw [List.length_map]
        simp at hlen2
        omega
      have hstk : (F0 m pc ls (st.map (ts_tr X))).stack = (as.map (ts_tr X)).reverse ++ Value.ref a :: (st.drop b).map (ts_tr X) := by
        show st.map (ts_tr X) = _
        rw [ts_split X has, hv]
      have hpc : va_Pc ((v :: as).map (ts_tr X)) (ts_Pr X σ) = va_Pc (Value.ref a :: as.map (ts_tr X)) (ts_Pr X σ) := by rw [List.map_cons, hv]
      rw [hpc] at hMet
      refine ts_go (a := (Value.ref a :: as.map (ts_tr X)).toArray) (rest := st.drop b) (va_runV (C := mi.1.cls) (b := a) (As := as.map (ts_tr X)) (rest := (st.drop b).map (ts_tr X)) (n := mi.2.2.2.2.1) ⟨C.1, C.2.1, C.2.2.1, C.2.2.2.1, C.2.2.2.2.1⟩ hMet
        ⟨callB_of mi.2.2.2.2.1 C.2.2.2.2.1 (ts_good C.2.2.2.2.2.1 hcode) rfl rfl rfl (tb _ hini) (tb _ hw) hd1 (ts_fit hdd hmx), tb _ hinst, tb _ hsel⟩
        ⟨ts_blind, ⟨cell, hc1, hc2, by rw [← hcn]; exact hc3⟩, ts_pre C hP hS _⟩ rfl hnl hL.2.1 hstk (lv_room (by rw [ts_sum_map]; exact hsum)) hd ⟨Nat.le_refl _, Nat.le_refl _⟩) hS (fun H1 locs1 hP1 hS1 => hk _ h H1 locs1 ls hP1 hS1 hL)
theorem tk_stat {d : Nat} (C : ts_Cx X p s m args meth c cc nL own Ts) (hk : ∀ f, k f = some res → ts_VV X p l e (ts_room d) s m args below meth c nL Q f) {j b : Nat} {mi : ts_M} {S : List ts_V → ts_S → Option ts_A} (hc : ts_Cal X l d mi S) (ht : mi.2.2.2.2.2 = 9) (hb : b = mi.2.2.2.2.1) (hw : Cond.methodLink own j mi.1 ∈ ts_TB ∨ (own = RX1 ∧ j = 64 ∧ mi.1 = yX4_isBelow)) (hd : decode cc pc = .ok (.invokestatic j, 3)) (hlen : b ≤ st.length) (hsum : ts_sum (st.drop b) ≤ 8)
    (h : (S (st.take b).reverse σ).bind (fun q => k (pc + 3, lo, ts_psh q.1 (st.drop b), q.2)) = some res) : ts_VV X p l e (ts_room d) s m args below meth c nL Q (pc, lo, st, σ) := by
  obtain ⟨⟨⟨hcode, hini⟩, hd1, hmx, hkind⟩, d', hdd, hM⟩ := hc
  cases hS' : S (st.take b).reverse σ with
  | none => rw [hS'] at h; cases h
  | some q =>
    obtain ⟨r, σ1⟩ := q
    rw [hS'] at h
    have h : k (pc + 3, lo, ts_psh r (st.drop b), σ1) = some res := h
    rcases hkind with ⟨-, hstat⟩ | ⟨hlt, -⟩
    · have hnl : (((st.take b).reverse).map (ts_tr X)).length = mi.2.2.2.2.1 := by rw [List.length_map, List.length_reverse, List.length_take]; omega
      intro H locs ls hP hS hL
      have hMet := hM _ σ r σ1 hS'
      have tb : ∀ w ∈ ts_TB, w.before args s = true := fun w hw => C.2.2.2.2.1 w (C.2.2.2.2.2.1 w hw)
      have hstk : (F0 m pc ls (st.map (ts_tr X))).stack = (((st.take b).reverse).map (ts_tr X)).reverse ++ (st.drop b).map (ts_tr X) := ts_splitS X
      rcases hw with hw | ⟨rfl, rfl, hy⟩
      · exact ts_go (a := (((st.take b).reverse).map (ts_tr X)).toArray) (rest := st.drop b) (va_runS (As := ((st.take b).reverse).map (ts_tr X)) (rest := (st.drop b).map (ts_tr X)) (n := mi.2.2.2.2.1) ⟨C.1, C.2.1, C.2.2.1, C.2.2.2.1, C.2.2.2.2.1⟩ hMet
          ⟨callB_of mi.2.2.2.2.1 C.2.2.2.2.1 (ts_good C.2.2.2.2.2.1 hcode) rfl rfl rfl (tb _ hini) (tb _ hw) hd1 (ts_fit hdd hmx), tb _ hstat⟩
          ⟨ts_blind, ts_pre C hP hS _⟩ rfl hnl hL.2.1 hstk (lv_room (by rw [ts_sum_map]; exact hsum)) hd ⟨Nat.le_refl _, Nat.le_refl _⟩) hS (fun H1 locs1 hP1 hS1 => hk _ h H1 locs1 ls hP1 hS1 hL)
      · have hnw : va_Nw (.methodLinkNest RX1 64 mi.1 RX4) s := by rw [hy]; exact C.2.2.2.2.2.2.1.2.2.2.1
        exact ts_go (a := (((st.take b).reverse).map (ts_tr X)).toArray) (rest := st.drop b) (va_runSN (As := ((st.take b).reverse).map (ts_tr X)) (rest := (st.drop b).map (ts_tr X)) (n := mi.2.2.2.2.1) ⟨C.1, C.2.1, C.2.2.1, C.2.2.2.1, C.2.2.2.2.1⟩ hMet
          ⟨va_cnB mi.2.2.2.2.1 C.2.2.2.2.1 (ts_good C.2.2.2.2.2.1 hcode) rfl rfl rfl hnw (tb _ hini) hd1 (ts_fit hdd hmx), tb _ hstat, trivial⟩
          ⟨ts_blind, ts_pre C hP hS _⟩ rfl hnl hL.2.1 hstk (lv_room (by rw [ts_sum_map]; exact hsum)) hd ⟨Nat.le_refl _, Nat.le_refl _⟩) hS (fun H1 locs1 hP1 hS1 => hk _ h H1 locs1 ls hP1 hS1 hL)
    · omega
theorem ts_ac_i {f : List ts_V → ts_S → Option ts_A} {a : ts_A} (h : ts_ac st σ f = some a) : ∃ n dp g1 c1 sp g0 c0 r n0 n1, st = .inl n :: .inl dp :: .inr (.inr (.inl (g1, c1))) :: .inl sp :: .inr (.inr (.inl (g0, c0))) :: r ∧ (ts_al (ts_kd g0))[c0]? = some (some n0) ∧ (ts_al (ts_kd g1))[c1]? = some (some n1) ∧ ¬ (sp < 0 ∨ dp < 0 ∨ n < 0 ∨ n0 < sp.toNatClampNeg + n.toNatClampNeg ∨ n1 < dp.toNatClampNeg + n.toNatClampNeg) ∧ f r (va_up σ g1 (va_up (σ g1) c1 (va_cpy (σ g0 c0) (σ g1 c1) sp.toNatClampNeg dp.toNatClampNeg n.toNatClampNeg))) = some a := by
  unfold ts_ac at h
  split at h
  · obtain ⟨n0, h1, h⟩ := ts_an_i h
    obtain ⟨n1, h2, h⟩ := ts_an_i h
    split at h
    · cases h
    · next hn => exact ⟨_, _, _, _, _, _, _, _, n0, n1, rfl, h1, h2, hn, h⟩
  · cases h
theorem tk_copy {d : Nat} (hd0 : 0 < d) (C : ts_Cx X p s m args meth c cc nL own Ts) (hk : ∀ f, k f = some res → ts_VV X p l e (ts_room d) s m args below meth c nL Q f) {j : Nat} (hw : Cond.methodLink own j arraycopyName ∈ ts_TB) (hw2 : Cond.native arraycopyName ∈ ts_TB ∧ Cond.static arraycopyName ∈ ts_TB ∧ Cond.initialized "java/lang/System" ∈ ts_TB) (hd : decode cc pc = .ok (.invokestatic j, 3))
    (h0 : ts_ac st σ (fun r σ' => cond (Nat.ble (ts_sum r) 8) (k (pc + 3, lo, r, σ')) none) = some res) : ts_VV X p l e (ts_room d) s m args below meth c nL Q (pc, lo, st, σ) := by
  obtain ⟨n, dp, g1, c1, sp, g0, c0, r, n0, n1, rfl, h1, h2, hn, h⟩ := ts_ac_i h0
  obtain ⟨hs, h3⟩ := ts_cond_i h
  have hs : ts_sum r ≤ 8 := Nat.le_of_ble_eq_true hs
  obtain ⟨hc, hc0⟩ := ts_cell_row (ts_al_lt h1) h1
  obtain ⟨hc', hc0'⟩ := ts_cell_row (ts_al_lt h2) h2
  have tb : ∀ w ∈ ts_TB, w.before args s = true := fun w hw => C.2.2.2.2.1 w (C.2.2.2.2.2.1 w hw)
  simp only [not_or, Nat.not_lt] at hn
  intro H locs ls hP hS hL
  obtain ⟨q, hq, hqw⟩ := ts_at X σ hc
  obtain ⟨q', hq', hqw'⟩ := ts_at X σ hc'
  rw [ts_en_row X σ hc0 h1] at hqw
  rw [ts_en_row X σ hc0' h2] at hqw'
  refine va_copyi (D := X.1) (ty := .int) C.1 C.2.1 (by rw [C.2.2.1, hL.2.1]) C.2.2.2.1 (tb _ hw) (tb _ hw2.1) (tb _ hw2.2.1) (tb _ hw2.2.2) C.2.2.2.2.2.2.1.1 hP (C.2.2.2.2.2.2.2.1 σ) hS q q' 0 0 hqw hqw' rfl rfl rfl hn.1 hn.2.1 hn.2.2.1 hn.2.2.2.1 hn.2.2.2.2 (fun _ _ => rfl) hd0 (by
    rw [ts_sum_map]
    show ts_sum r + (5 + 2 + 11) ≤ 39 * d
    omega) hd (fun H1 locs1 hP1 _ hS1 => ?_)
  rw [ts_set X (σ' := va_up σ g1 (va_up (σ g1) c1 (va_cpy (σ g0 c0) (σ g1 c1) sp.toNatClampNeg dp.toNatClampNeg n.toNatClampNeg))) hq' (by rw [ts_en_row X _ hc0' h2, ts_put_s]) (ts_put_o σ g1 c1 _)] at hP1
  exact hk _ h3 H1 locs1 ls hP1 hS1 hL
end TSR
end
section
/-! what the tables must say of an instruction; a method's contract out of its table -/
def ts_len (i : ts_I) : Nat := match i.1 with
  | .bipush _ => 2
  | .ldc _ => 2
  | .iload _ => 2
  | .lload _ => 2
  | .aload _ => 2
  | .istore _ => 2
  | .lstore _ => 2
  | .sipush _ => 3
  | .ldc_w _ => 3
  | .iinc _ _ => 3
  | .ifCond _ _ => 3
  | .if_icmp _ _ => 3
  | .goto _ => 3
  | .getfield _ => 3
  | .putfield _ => 3
  | .invokevirtual _ => 3
  | .invokestatic _ => 3
  | .tableswitch _ _ _ _ => i.2.2.1
  | .lookupswitch _ _ => i.2.2.1
  | _ => 1
def ts_okc (own : String) (j a b : Nat) (ps : List (Nat × Nat)) : Bool := match ps with
  | [(q, _)] => cond (b == 0) (ts_wx q (.constant own j (Int32.ofNat a))) (decide ((ts_sr[q]?).map (fun x => (x.1, x.2.1, x.2.2.2)) = some (own, j, a)))
  | _ => false
def ts_okf (own : String) (j a b : Nat) (ps : List (Nat × Nat)) : Bool := match ps with
  | [(q, _)] => decide (a < 5) && ts_wx q (.fieldLink own j (ts_TT a b).1 (ts_TT a b).2.1 (ts_TT a b).2.2.1)
  | _ => false
def ts_okp (a b : Nat) (ps : List (Nat × Nat)) : Bool := (!(ts_TT a b).2.2.2) && match ps with
  | [(_, 0)] => decide (ts_ty a b = .int)
  | _ => decide (ts_ty a b = .boolean)
def ts_okv (mi : Nat → ts_M) (cs : List Nat) (own : String) (j a b : Nat) (ps : List (Nat × Nat)) : Bool := match ps with
  | [(q, t)] => cs.elem a && (decide ((mi a).2.2.2.2.2 = t) && (decide (¬ t = 9) && (decide (b = (mi a).2.2.2.2.1 + 1) && ts_wx q (.methodLink own j (mi a).1))))
  | _ => false
def ts_oks (d : Nat) (mi : Nat → ts_M) (cs : List Nat) (own : String) (j a b : Nat) (ps : List (Nat × Nat)) : Bool := match ps with
  | [(q, t)] => cond (t == 7) (decide (0 < d) && ts_wx q (.methodLink own j arraycopyName)) (cs.elem a && (decide ((mi a).2.2.2.2.2 = 9) && (decide (b = (mi a).2.2.2.2.1) && cond (t == 6) (decide (own = RX1) && (decide (j = 64) && decide ((mi a).1 = yX4_isBelow))) (ts_wx q (.methodLink own j (mi a).1)))))
  | _ => false
def ts_okr (rt : Option FieldType) (a : Nat) : Bool := match rt with
  | some .int => a == 0
  | some .boolean => a == 1
  | _ => false
def ts_okb (d : Nat) (mi : Nat → ts_M) (cs : List Nat) (own : String) (rt : Option FieldType) (pc : Nat) (i : ts_I) : Bool := match i.1 with
  | .iconst n => decide (Int32.ofInt n = Int32.ofNat i.2.1)
  | .bipush n => decide ((Int8.ofInt n).toInt32 = Int32.ofNat i.2.1)
  | .sipush n => decide ((Int16.ofInt n).toInt32 = Int32.ofNat i.2.1)
  | .ldc j => ts_okc own j i.2.1 i.2.2.1 i.2.2.2
  | .ldc_w j => ts_okc own j i.2.1 i.2.2.1 i.2.2.2
  | .lconst n => decide (Int64.ofNat (n : Nat) = Int64.ofNat i.2.1)
  | .iload_n n => decide ((n : Nat) = i.2.1)
  | .lload_n n => decide ((n : Nat) = i.2.1)
  | .aload_n n => decide ((n : Nat) = i.2.1)
  | .istore_n n => decide ((n : Nat) = i.2.1)
  | .lstore_n n => decide ((n : Nat) = i.2.1)
  | .iload n => decide (n = i.2.1)
  | .lload n => decide (n = i.2.1)
  | .aload n => decide (n = i.2.1)
  | .istore n => decide (n = i.2.1)
  | .lstore n => decide (n = i.2.1)
  | .iinc j n => decide (j = i.2.1) && decide (Int32.ofInt n = Int32.ofNat i.2.2.1)
  | .ifCond _ o => decide ((pc : Int) + o = (i.2.1 : Int))
  | .if_icmp _ o => decide ((pc : Int) + o = (i.2.1 : Int))
  | .goto o => decide ((pc : Int) + o = (i.2.1 : Int))
  | .tableswitch d lw hi offs => decide (lw = (lw.toNat : Int)) && (decide (hi = lw + (offs.size : Int) - 1) && (decide (lw.toNat + offs.size < 2 ^ 31) && (decide ((pc : Int) + d = (i.2.1 : Int)) && ts_tok pc lw.toNat offs.toList i.2.2.2)))
  | .lookupswitch d prs => (prs.toList.zip (prs.toList.drop 1)).all (fun (a, next) => a.1 < next.1) && (decide ((pc : Int) + d = (i.2.1 : Int)) && ts_lok pc prs.toList i.2.2.2)
  | .getfield j => ts_okf own j i.2.1 i.2.2.1 i.2.2.2
  | .putfield j => ts_okf own j i.2.1 i.2.2.1 i.2.2.2 && ts_okp i.2.1 i.2.2.1 i.2.2.2
  | .invokevirtual j => ts_okv mi cs own j i.2.1 i.2.2.1 i.2.2.2
  | .invokestatic j => ts_oks d mi cs own j i.2.1 i.2.2.1 i.2.2.2
  | .ireturn => ts_okr rt i.2.1
  | .lreturn => decide (rt = some .long)
  | .areturn => decide (rt = some (.object "java/lang/String"))
  | .return_ => decide (rt = none)
  | _ => true
theorem ts_acw : Cond.native arraycopyName ∈ ts_TB ∧ Cond.static arraycopyName ∈ ts_TB ∧ Cond.initialized "java/lang/System" ∈ ts_TB :=
  ⟨ts_wx_in (q := 2137) (by decide +kernel), ts_wx_in (q := 2136) (by decide +kernel), ts_wx_in (q := 1008) (by decide +kernel)⟩
theorem ts_okc_s {own : String} {j a q : Nat} (h : decide ((ts_sr[q]?).map (fun x => (x.1, x.2.1, x.2.2.2)) = some (own, j, a)) = true) : ∃ tx, (own, j, tx, a) ∈ ts_sr := by
  have h := of_decide_eq_true h
  cases hq : ts_sr[q]? with
  | none => rw [hq] at h; cases h
  | some x =>
    rw [hq] at h
    obtain ⟨x1, x2, x3, x4⟩ := x
    have h := Option.some.inj h
    injection h with e1 h
    injection h with e2 e3
    dsimp only at e1 e2 e3
    subst e1; subst e2; subst e3
    exact ⟨x3, List.mem_of_getElem? hq⟩
section TSM
variable {X : ts_X} {p : Program} {l : Launch} {e : Env} {s : State} {m : MethodId} {args : Array Value} {below : List Frame} {meth : Method} {c : Code} {cc : ByteArray} {nL : Nat} {own : String} {Ts : List Cond} {pc : Nat} {lo : ts_L} {st : List ts_V} {σ : ts_S} {k : ts_K}
set_option maxHeartbeats 4000000 in
theorem ts_st_ok {d : Nat} (C : ts_Cx X p s m args meth c cc nL own Ts) {rt : Option FieldType} (hr : meth.sig.returnType = rt) {E : ts_E} {mi : Nat → ts_M} {cs : List Nat} (hE : ∀ z ∈ cs, ts_Cal X l d (mi z) (E z)) {r : Option ts_V} {σ' : ts_S} {i : ts_I} (hdc : decode cc pc = .ok (i.1, ts_len i)) (hok : ts_okb d mi cs own rt pc i = true)
    (hk : ∀ f, k f = some (r, σ') → ts_VV X p l e (ts_room d) s m args below meth c nL (MQ below (ts_Po X r σ') args s 0 0 X.2.2.2.2.2.2) f) (h : ts_st E i pc lo st σ k = some (r, σ')) : ts_VV X p l e (ts_room d) s m args below meth c nL (MQ below (ts_Po X r σ') args s 0 0 X.2.2.2.2.2.2) (pc, lo, st, σ) := by
  obtain ⟨i, a, b, ps⟩ := i
  cases i with
  | iconst n => exact tk_iconst C hk hdc (of_decide_eq_true hok) h
  | bipush n => exact tk_bipush C hk hdc (of_decide_eq_true hok) h
  | sipush n => exact tk_sipush C hk hdc (of_decide_eq_true hok) h
  | lconst n => exact tk_lconst C hk hdc (of_decide_eq_true hok) h
  | ldc j =>
    have hok : ts_okc own j a b ps = true := hok
    have hh : cond (b == 0) (k (pc + 2, lo, .inl (Int32.ofNat a) :: st, σ)) (k (pc + 2, lo, .inr (.inr (.inr a)) :: st, σ)) = some (r, σ') := h
    unfold ts_okc at hok
    split at hok
    · cases hb : (b == 0) with
      | true => rw [hb] at hok hh; exact tk_ldc C hk hdc (ts_wx_in hok) hh
      | false =>
        rw [hb] at hok hh
        obtain ⟨tx, hx⟩ := ts_okc_s hok
        exact tk_ldcS C hk hdc hx hh
    · cases hok
  | ldc_w j =>
    have hok : ts_okc own j a b ps = true := hok
    have hh : cond (b == 0) (k (pc + 3, lo, .inl (Int32.ofNat a) :: st, σ)) (k (pc + 3, lo, .inr (.inr (.inr a)) :: st, σ)) = some (r, σ') := h
    unfold ts_okc at hok
    split at hok
    · cases hb : (b == 0) with
      | true => rw [hb] at hok hh; exact tk_ldc_w C hk hdc (ts_wx_in hok) hh
      | false =>
        rw [hb] at hok hh
        obtain ⟨tx, hx⟩ := ts_okc_s hok
        exact tk_ldcwS C hk hdc hx hh
    · cases hok
  | iload_n n => exact tk_iload_n C hk hdc (of_decide_eq_true hok) h
  | lload_n n => exact tk_lload_n C hk hdc (of_decide_eq_true hok) h
  | aload_n n => exact tk_aload_n C hk hdc (of_decide_eq_true hok) h
  | istore_n n => exact tk_istore_n C hk hdc (of_decide_eq_true hok) h
  | lstore_n n => exact tk_lstore_n C hk hdc (of_decide_eq_true hok) h
  | iload n => cases (of_decide_eq_true hok : n = a); exact tk_iload C hk hdc h
  | lload n => cases (of_decide_eq_true hok : n = a); exact tk_lload C hk hdc h
  | aload n => cases (of_decide_eq_true hok : n = a); exact tk_aload C hk hdc h
  | istore n => cases (of_decide_eq_true hok : n = a); exact tk_istore C hk hdc h
  | lstore n => cases (of_decide_eq_true hok : n = a); exact tk_lstore C hk hdc h
  | iinc j n =>
    have hok : (decide (j = a) && decide (Int32.ofInt n = Int32.ofNat b)) = true := hok
    simp only [Bool.and_eq_true, decide_eq_true_eq] at hok
    obtain ⟨rfl, h2⟩ := hok
    exact tk_iinc C hk hdc h2 h
  | iadd => exact tk_iadd C hk hdc h
  | isub => exact tk_isub C hk hdc h
  | imul => exact tk_imul C hk hdc h
  | iand => exact tk_iand C hk hdc h
  | ior => exact tk_ior C hk hdc h
  | ixor => exact tk_ixor C hk hdc h
  | ishl => exact tk_ishl C hk hdc h
  | ishr => exact tk_ishr C hk hdc h
  | iushr => exact tk_iushr C hk hdc h
  | idiv => exact tk_idiv C hk hdc h
  | irem => exact tk_irem C hk hdc h
  | i2l => exact tk_i2l C hk hdc h
  | i2b => exact tk_i2b C hk hdc h
  | i2s => exact tk_i2s C hk hdc h
  | ladd => exact tk_ladd C hk hdc h
  | lmul => exact tk_lmul C hk hdc h
  | lcmp => exact tk_lcmp C hk hdc h
  | dup =>
    cases st with
    | nil => cases (show (none : Option ts_A) = some _ from h)
    | cons v r => exact tk_dup C hk rfl hdc h
  | pop =>
    cases st with
    | nil => cases (show (none : Option ts_A) = some _ from h)
    | cons v r => exact tk_pop C hk rfl hdc h
  | dup2 =>
    match st, h with
    | [], h => cases (show (none : Option ts_A) = some _ from h)
    | [_], h => cases (show (none : Option ts_A) = some _ from h)
    | v :: w :: r, h => exact tk_dup2 C hk rfl hdc h
  | ifCond q o =>
    cases q with
    | eq => exact tk_ifCond_eq C hk hdc (of_decide_eq_true hok) h
    | ne => exact tk_ifCond_ne C hk hdc (of_decide_eq_true hok) h
    | lt => exact tk_ifCond_lt C hk hdc (of_decide_eq_true hok) h
    | ge => exact tk_ifCond_ge C hk hdc (of_decide_eq_true hok) h
    | gt => exact tk_ifCond_gt C hk hdc (of_decide_eq_true hok) h
    | le => exact tk_ifCond_le C hk hdc (of_decide_eq_true hok) h
  | if_icmp q o =>
    cases q with
    | eq => exact tk_if_icmp_eq C hk hdc (of_decide_eq_true hok) h
    | ne => exact tk_if_icmp_ne C hk hdc (of_decide_eq_true hok) h
    | lt => exact tk_if_icmp_lt C hk hdc (of_decide_eq_true hok) h
    | ge => exact tk_if_icmp_ge C hk hdc (of_decide_eq_true hok) h
    | gt => exact tk_if_icmp_gt C hk hdc (of_decide_eq_true hok) h
    | le => exact tk_if_icmp_le C hk hdc (of_decide_eq_true hok) h
  | goto o => exact tk_goto C hk hdc (of_decide_eq_true hok) h
  | tableswitch dl lw hi offs =>
    have hok : (decide (lw = (lw.toNat : Int)) && (decide (hi = lw + (offs.size : Int) - 1) && (decide (lw.toNat + offs.size < 2 ^ 31) && (decide ((pc : Int) + dl = (a : Int)) && ts_tok pc lw.toNat offs.toList ps)))) = true := hok
    simp only [Bool.and_eq_true, decide_eq_true_eq] at hok
    exact tk_tableswitch C hk hdc hok.1 hok.2.1 hok.2.2.1 hok.2.2.2.1 hok.2.2.2.2 h
  | lookupswitch dl prs =>
    have hok : ((prs.toList.zip (prs.toList.drop 1)).all (fun (a, next) => a.1 < next.1) && (decide ((pc : Int) + dl = (a : Int)) && ts_lok pc prs.toList ps)) = true := hok
    rw [Bool.and_eq_true, Bool.and_eq_true] at hok
    exact tk_lookupswitch C hk hdc hok.1 (of_decide_eq_true hok.2.1) hok.2.2 h
  | getfield j =>
    have hok : ts_okf own j a b ps = true := hok
    unfold ts_okf at hok
    split at hok
    · rw [Bool.and_eq_true] at hok
      exact tk_getfield C hk hdc (of_decide_eq_true hok.1) (ts_wx_in hok.2) h
    · cases hok
  | putfield j =>
    have hok : (ts_okf own j a b ps && ts_okp a b ps) = true := hok
    rw [Bool.and_eq_true] at hok
    obtain ⟨h1, h2⟩ := hok
    unfold ts_okf at h1
    split at h1
    · next q z =>
      rw [Bool.and_eq_true] at h1
      have h2 : ((!(ts_TT a b).2.2.2) = true) ∧ (match z with | 0 => decide (ts_ty a b = .int) | _ => decide (ts_ty a b = .boolean)) = true := by
        cases z with
        | zero => exact Bool.and_eq_true_iff.mp h2
        | succ z => exact Bool.and_eq_true_iff.mp h2
      have hf : (ts_TT a b).2.2.2 = false := by simpa using h2.1
      match st, h with
      | [], h => cases (show (none : Option ts_A) = some _ from h)
      | [.inl _], h => cases (show (none : Option ts_A) = some _ from h)
      | .inr _ :: _, h => cases (show (none : Option ts_A) = some _ from h)
      | .inl _ :: .inl _ :: _, h => cases (show (none : Option ts_A) = some _ from h)
      | .inl _ :: .inr (.inl _) :: _, h => cases (show (none : Option ts_A) = some _ from h)
      | .inl _ :: .inr (.inr (.inr _)) :: _, h => cases (show (none : Option ts_A) = some _ from h)
      | .inl x :: .inr (.inr (.inl (g, c'))) :: r', h =>
        obtain ⟨h3, h⟩ := ts_cond_i h
        obtain ⟨h4, h⟩ := ts_pf_i h
        cases z with
        | zero => exact tk_putfield C hk rfl hdc (of_decide_eq_true h1.1) (ts_wx_in h1.2) hf (Or.inl (of_decide_eq_true h2.2)) h3 h4 h
        | succ z =>
          have h : (if x = 0 ∨ x = 1 then k (pc + 3, lo, r', ts_up σ g 0 b x) else none) = some (r, σ') := h
          by_cases hx : x = 0 ∨ x = 1
          · rw [if_pos hx] at h
            exact tk_putfield C hk rfl hdc (of_decide_eq_true h1.1) (ts_wx_in h1.2) hf (Or.inr ⟨of_decide_eq_true h2.2, hx⟩) h3 h4 h
          · rw [if_neg hx] at h; cases h
    · cases h1
  | iaload => exact tk_iaload C hk hdc h
  | iastore => exact tk_iastore C hk hdc h
  | aaload => exact tk_aaload C hk hdc h
  | arraylength => exact tk_arraylength C hk hdc h
  | invokevirtual j =>
    have hok : ts_okv mi cs own j a b ps = true := hok
    unfold ts_okv at hok
    split at hok
    · next q t =>
      simp only [Bool.and_eq_true, decide_eq_true_eq] at hok
      obtain ⟨h1, h2, h3, h4, h5⟩ := hok
      obtain ⟨h6, h⟩ := ts_cond_i h
      simp only [Bool.and_eq_true] at h6
      subst h2
      exact tk_virt C hk (hE a (List.elem_iff.mp h1)) h3 h4 (ts_wx_in h5) hdc (Nat.le_of_ble_eq_true h6.1) (Nat.le_of_ble_eq_true h6.2.1) h6.2.2 h
    · cases hok
  | invokestatic j =>
    have hok : ts_oks d mi cs own j a b ps = true := hok
    unfold ts_oks at hok
    split at hok
    · next q t _ =>
      have h : cond (t == 7) (ts_ac st σ fun r σ' => cond (Nat.ble (ts_sum r) 8) (k (pc + 3, lo, r, σ')) none)
        (cond (Nat.ble b st.length && Nat.ble (ts_sum (st.drop b)) 8) ((E a (st.take b).reverse σ).bind fun q => k (pc + 3, lo, ts_psh q.1 (st.drop b), q.2)) none) = some (r, σ') := h
      cases ht : (t == 7) with
      | true =>
        rw [ht] at hok h
        have hok : (decide (0 < d) && ts_wx q (.methodLink own j arraycopyName)) = true := hok
        rw [Bool.and_eq_true] at hok
        exact tk_copy (of_decide_eq_true hok.1) C hk (ts_wx_in hok.2) ts_acw hdc h
      | false =>
        rw [ht] at hok h
        have hok : (cs.elem a && (decide ((mi a).2.2.2.2.2 = 9) && (decide (b = (mi a).2.2.2.2.1) && cond (t == 6) (decide (own = RX1) && (decide (j = 64) && decide ((mi a).1 = yX4_isBelow))) (ts_wx q (.methodLink own j (mi a).1))))) = true := hok
        rw [Bool.and_eq_true, Bool.and_eq_true, Bool.and_eq_true] at hok
        obtain ⟨h1, h2, h3, h4⟩ := hok
        obtain ⟨h6, h⟩ := ts_cond_i h
        rw [Bool.and_eq_true] at h6
        refine tk_stat C hk (hE a (List.elem_iff.mp h1)) (of_decide_eq_true h2) (of_decide_eq_true h3) ?_ hdc (Nat.le_of_ble_eq_true h6.1) (Nat.le_of_ble_eq_true h6.2) h
        cases h7 : (t == 6) with
        | true =>
          rw [h7] at h4
          simp only [cond_true, Bool.and_eq_true, decide_eq_true_eq] at h4
          exact Or.inr h4
        | false =>
          rw [h7] at h4
          exact Or.inl (ts_wx_in h4)
    · cases hok
  | ireturn =>
    have hok : ts_okr rt a = true := hok
    match st, h with
    | [], h => cases (show (none : Option ts_A) = some _ from h)
    | .inr _ :: _, h => cases (show (none : Option ts_A) = some _ from h)
    | .inl _ :: _ :: _, h => cases (show (none : Option ts_A) = some _ from h)
    | [.inl x], h =>
      have h : cond (a == 0) (some (some (.inl x), σ)) (if x = 0 ∨ x = 1 then some (some (.inl x), σ) else none) = some (r, σ') := h
      unfold ts_okr at hok
      split at hok
      · rw [hok] at h
        cases h
        exact tk_ireturn C hr hdc
      · have ha : (a == 0) = false := by rw [eq_of_beq hok]; rfl
        rw [ha] at h
        have h : (if x = 0 ∨ x = 1 then some (some (.inl x), σ) else none) = some (r, σ') := h
        by_cases hx : x = 0 ∨ x = 1
        · rw [if_pos hx] at h
          cases h
          exact tk_zreturn C hr hx hdc
        · rw [if_neg hx] at h; cases h
      · cases hok
  | lreturn =>
    match st, h with
    | [], h => cases (show (none : Option ts_A) = some _ from h)
    | .inl _ :: _, h => cases (show (none : Option ts_A) = some _ from h)
    | .inr (.inr _) :: _, h => cases (show (none : Option ts_A) = some _ from h)
    | .inr (.inl _) :: _ :: _, h => cases (show (none : Option ts_A) = some _ from h)
    | [.inr (.inl x)], h =>
      cases (show some (some (.inr (.inl x)), σ) = some (r, σ') from h)
      exact tk_lreturn C (hr.trans (of_decide_eq_true hok)) hdc
  | areturn =>
    match st, h with
    | [], h => cases (show (none : Option ts_A) = some _ from h)
    | .inl _ :: _, h => cases (show (none : Option ts_A) = some _ from h)
    | .inr (.inl _) :: _, h => cases (show (none : Option ts_A) = some _ from h)
    | .inr (.inr _) :: _ :: _, h => cases (show (none : Option ts_A) = some _ from h)
    | [.inr (.inr x)], h =>
      cases (show some (some (.inr (.inr x)), σ) = some (r, σ') from h)
      exact tk_areturn C (hr.trans (of_decide_eq_true hok)) hdc
  | return_ =>
    match st, h with
    | _ :: _, h => cases (show (none : Option ts_A) = some _ from h)
    | [], h =>
      cases (show some (none, σ) = some (r, σ') from h)
      exact tk_return C (hr.trans (of_decide_eq_true hok)) hdc
  | _ => cases (show (none : Option ts_A) = some _ from h)
/-- a method's whole table -/
def ts_tbo (d : Nat) (mi : Nat → ts_M) (cs : List Nat) (own : String) (rt : Option FieldType) (cc : ByteArray) : Nat → List (Option ts_I) → Bool
  | _, [] => true
  | pc, none :: r => ts_tbo d mi cs own rt cc (pc + 1) r
  | pc, some i :: r => (decide (decode cc pc = .ok (i.1, ts_len i)) && ts_okb d mi cs own rt pc i) && ts_tbo d mi cs own rt cc (pc + 1) r
theorem ts_tbo_i {d : Nat} {mi : Nat → ts_M} {cs : List Nat} {own : String} {rt : Option FieldType} {cc : ByteArray} {i : ts_I} : ∀ (tb : List (Option ts_I)) (n pc : Nat), ts_tbo d mi cs own rt cc n tb = true → tb[pc]? = some (some i) → decode cc (n + pc) = .ok (i.1, ts_len i) ∧ ts_okb d mi cs own rt (n + pc) i = true
  | [], n, pc, _, h => by cases h
  | none :: r, n, pc, hk, h => by
    cases pc with
    | zero => cases h
    | succ pc =>
      have := ts_tbo_i r (n + 1) pc hk h
      rw [show n + (pc + 1) = n + 1 + pc by omega]
      exact this
  | some j :: r, n, pc, hk, h => by
    simp only [ts_tbo, Bool.and_eq_true, decide_eq_true_eq] at hk
    cases pc with
    | zero => cases h; exact hk.1
    | succ pc =>
      have := ts_tbo_i r (n + 1) pc hk.2 h
      rw [show n + (pc + 1) = n + 1 + pc by omega]
      exact this
theorem ts_run_ok {d : Nat} (C : ts_Cx X p s m args meth c cc nL own Ts) {rt : Option FieldType} (hr : meth.sig.returnType = rt) {E : ts_E} {mi : Nat → ts_M} {cs : List Nat} (hE : ∀ z ∈ cs, ts_Cal X l d (mi z) (E z)) {r : Option ts_V} {σ' : ts_S} {tb : List (Option ts_I)} (htb : ts_tbo d mi cs own rt cc 0 tb = true) : ∀ (n : Nat) (f : ts_C), ts_run E tb n f = some (r, σ') → ts_VV X p l e (ts_room d) s m args below meth c nL (MQ below (ts_Po X r σ') args s 0 0 X.2.2.2.2.2.2) f
  | 0, f, h => by cases h
  | n + 1, f, h => by
    have h : ts_stp E tb f (ts_run E tb n) = some (r, σ') := h
    unfold ts_stp at h
    split at h
    · next i hi =>
      obtain ⟨h1, h2⟩ := ts_tbo_i tb 0 f.1 htb hi
      rw [Nat.zero_add] at h1 h2
      obtain ⟨pc, lo, st, σ⟩ := f
      exact ts_st_ok C hr hE h1 h2 (ts_run_ok C hr hE htb n) h
    · cases h
end TSM
def ts_aok (as : List ts_V) (n : Nat) : Bool := as.all (fun v => ts_cat v == 1) && Nat.ble as.length n
/-- the pure function of a method: its table's limit from its entry -/
noncomputable def ts_Fn (E : ts_E) (tb : List (Option ts_I)) (n : Nat) (as : List ts_V) (σ : ts_S) : Option ts_A := cond (ts_aok as n) (ts_R E tb (0, ts_ent as n, [], σ)) none
theorem ts_sl_len (X : ts_X) : ∀ as : List ts_V, as.all (fun v => ts_cat v == 1) = true → (lg_sl (as.map (ts_tr X))).length = as.length
  | [], _ => rfl
  | v :: as, h => by
    simp only [List.all_cons, Bool.and_eq_true, beq_iff_eq] at h
    have ih := ts_sl_len X as h.2
    unfold lg_sl at ih ⊢
    rw [List.map_cons, List.flatMap_cons, List.length_append, ih]
    have hc : ¬ (ts_tr X v).category = 2 := by rw [ts_tr_cat, h.1]; decide
    rw [if_neg hc]
    simp; omega
theorem ts_args_mem (X : ts_X) : ∀ (as : List ts_V) (i j : Nat) (v : ts_V), as.all (fun v => ts_cat v == 1) = true → as[j]? = some v → (i + j, ts_tr X v) ∈ lv_args i (as.map (ts_tr X))
  | [], i, j, v, _, h => by cases h
  | w :: as, i, j, v, hc, h => by
    simp only [List.all_cons, Bool.and_eq_true, beq_iff_eq] at hc
    have hc1 : ¬ (ts_tr X w).category = 2 := by rw [ts_tr_cat, hc.1]; decide
    show _ ∈ (i, ts_tr X w) :: lv_args (if (ts_tr X w).category = 2 then i + 2 else i + 1) (as.map (ts_tr X))
    rw [if_neg hc1]
    cases j with
    | zero => cases h; exact List.mem_cons_self
    | succ j =>
      refine List.mem_cons_of_mem _ ?_
      have := ts_args_mem X as (i + 1) j v hc.2 h
      rw [show i + (j + 1) = i + 1 + j by omega]
      exact this
theorem ts_con {X : ts_X} {l : Launch} (mi0 : ts_M) (d : Nat) {E : ts_E} {mi : Nat → ts_M} {cs : List Nat} {tb : List (Option ts_I)} (hpl : plainName mi0.1.cls = true) (hD : ∀ σ, va_D X.2.2.2.2.2.2 (ts_ws X σ)) (hE : ∀ z ∈ cs, ts_Cal X l d (mi z) (E z)) (htb : ts_tbo d mi cs mi0.1.cls mi0.2.2.2.1 mi0.2.1 0 tb = true) : ts_Met X l mi0 d (ts_Fn E tb mi0.2.2.1) := by
  intro as σ r σ' hS
  obtain ⟨hok, hR⟩ := ts_cond_i hS
  rw [ts_aok, Bool.and_eq_true] at hok
  obtain ⟨hcat, hle⟩ := hok
  have hle : as.length ≤ mi0.2.2.1 := Nat.le_of_ble_eq_true hle
  obtain ⟨n, hn⟩ := ts_R_spec hR
  refine Met.ofW (cc := mi0.2.1) (maxL := mi0.2.2.1) (ret := mi0.2.2.2.1) hpl rfl ?_
  intro p e s m args below meth c s₁ B hml hv
  obtain ⟨rfl, hP, hY⟩ := hv
  have C : ts_Cx X p s m (as.map (ts_tr X)).toArray meth c mi0.2.1 mi0.2.2.1 mi0.1.cls (ts_wl mi0) := ⟨B.exec, B.bytes, hml, findClass_of_methodNamed B.named, atoms_spec (ws := ts_wl mi0) B.pre, fun w hw => List.mem_cons_of_mem _ hw, hY, hD, B.notSynchronized⟩
  have hV := ts_run_ok (l := l) (e := e) (below := below) C B.returns hE htb n _ hn
  rw [lg_entry_eq]
  refine hV s.heap [] _ hP va_S.rf ?_
  have hl := lv_entry (as.map (ts_tr X)) (n := mi0.2.2.1) (by rw [ts_sl_len X as hcat]; exact hle)
  refine ⟨?_, hl.1, hl.2.1, fun j v hj => ?_⟩
  · show (ts_ent as mi0.2.2.1).length = mi0.2.2.1
    simp only [ts_ent, List.length_append, List.length_map, List.length_replicate]
    omega
  · have hj : (ts_ent as mi0.2.2.1)[j]? = some (some v) := hj
    have hja : as[j]? = some v := by
      rw [ts_ent, List.getElem?_append] at hj
      split at hj
      · rw [List.getElem?_map] at hj
        cases hx : as[j]? with
        | none => rw [hx] at hj; cases hj
        | some w => rw [hx] at hj; cases hj; rfl
      · rw [List.getElem?_replicate] at hj
        split at hj <;> cases hj
    have := ts_args_mem X as 0 j v hcat hja
    rw [Nat.zero_add] at this
    exact hl.2.2 (j, ts_tr X v) this
end
