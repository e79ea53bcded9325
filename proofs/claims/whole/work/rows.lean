section
-- ===== PART A: goes FIRST, ahead of the names: the tables' words, and 'selects' of the private methods out of them =====
/-- a private method of a class that the tables say can be made, by its rows of tables_1 -/
def lw_okq (q : MethodName × Nat) : Prop := (q.1.cls ≠ "java/lang/invoke/MethodHandle" ∧ q.1.cls ≠ "java/lang/invoke/VarHandle") ∧ Cond.instantiable q.1.cls q.2 ∈ tables_1 ∧ Cond.privateMethod q.1 ∈ tables_1 ∧ Cond.instanceMethod q.1 ∈ tables_1
theorem lw_p0 : lw_okq (⟨"OneBell", "bad", "(I)I"⟩, 13) := ⟨⟨by decide +kernel, by decide +kernel⟩, List.mem_of_getElem? (i := 22) (by decide +kernel), List.mem_of_getElem? (i := 390) (by decide +kernel), List.mem_of_getElem? (i := 391) (by decide +kernel)⟩
theorem lw_p1 : lw_okq (⟨"OneBell", "tooMany", "()I"⟩, 13) := ⟨⟨by decide +kernel, by decide +kernel⟩, List.mem_of_getElem? (i := 22) (by decide +kernel), List.mem_of_getElem? (i := 394) (by decide +kernel), List.mem_of_getElem? (i := 395) (by decide +kernel)⟩
theorem lw_p2 : lw_okq (⟨"OneBell", "refusedNow", "()I"⟩, 13) := ⟨⟨by decide +kernel, by decide +kernel⟩, List.mem_of_getElem? (i := 22) (by decide +kernel), List.mem_of_getElem? (i := 414) (by decide +kernel), List.mem_of_getElem? (i := 415) (by decide +kernel)⟩
theorem lw_p3 : lw_okq (⟨"OneBell$Reader", "nextToken", "()V"⟩, 9) := ⟨⟨by decide +kernel, by decide +kernel⟩, List.mem_of_getElem? (i := 304) (by decide +kernel), List.mem_of_getElem? (i := 445) (by decide +kernel), List.mem_of_getElem? (i := 446) (by decide +kernel)⟩
theorem lw_p4 : lw_okq (⟨"OneBell$Reader", "endOfRun", "(ICC)I"⟩, 9) := ⟨⟨by decide +kernel, by decide +kernel⟩, List.mem_of_getElem? (i := 304) (by decide +kernel), List.mem_of_getElem? (i := 449) (by decide +kernel), List.mem_of_getElem? (i := 450) (by decide +kernel)⟩
theorem lw_p5 : lw_okq (⟨"OneBell$Reader", "takeFigures", "()V"⟩, 9) := ⟨⟨by decide +kernel, by decide +kernel⟩, List.mem_of_getElem? (i := 304) (by decide +kernel), List.mem_of_getElem? (i := 453) (by decide +kernel), List.mem_of_getElem? (i := 454) (by decide +kernel)⟩
theorem lw_p6 : lw_okq (⟨"OneBell$Reader", "takesItem", "()Z"⟩, 9) := ⟨⟨by decide +kernel, by decide +kernel⟩, List.mem_of_getElem? (i := 304) (by decide +kernel), List.mem_of_getElem? (i := 457) (by decide +kernel), List.mem_of_getElem? (i := 458) (by decide +kernel)⟩
theorem lw_p7 : lw_okq (⟨"OneBell$Reader", "isWord", "(Ljava/lang/String;)Z"⟩, 9) := ⟨⟨by decide +kernel, by decide +kernel⟩, List.mem_of_getElem? (i := 304) (by decide +kernel), List.mem_of_getElem? (i := 462) (by decide +kernel), List.mem_of_getElem? (i := 463) (by decide +kernel)⟩
theorem lw_p8 : lw_okq (⟨"OneBell$Reader", "takesThing", "()Z"⟩, 9) := ⟨⟨by decide +kernel, by decide +kernel⟩, List.mem_of_getElem? (i := 304) (by decide +kernel), List.mem_of_getElem? (i := 514) (by decide +kernel), List.mem_of_getElem? (i := 515) (by decide +kernel)⟩
theorem lw_p9 : lw_okq (⟨"OneBell$Reader", "takesNumber", "(III)Z"⟩, 9) := ⟨⟨by decide +kernel, by decide +kernel⟩, List.mem_of_getElem? (i := 304) (by decide +kernel), List.mem_of_getElem? (i := 518) (by decide +kernel), List.mem_of_getElem? (i := 519) (by decide +kernel)⟩
theorem lw_p10 : lw_okq (⟨"OneBell$Reader", "takesCut", "()Z"⟩, 9) := ⟨⟨by decide +kernel, by decide +kernel⟩, List.mem_of_getElem? (i := 304) (by decide +kernel), List.mem_of_getElem? (i := 525) (by decide +kernel), List.mem_of_getElem? (i := 526) (by decide +kernel)⟩
theorem lw_p11 : lw_okq (⟨"OneBell$Reader", "takesDamp", "()Z"⟩, 9) := ⟨⟨by decide +kernel, by decide +kernel⟩, List.mem_of_getElem? (i := 304) (by decide +kernel), List.mem_of_getElem? (i := 531) (by decide +kernel), List.mem_of_getElem? (i := 532) (by decide +kernel)⟩
theorem lw_p12 : lw_okq (⟨"OneBell$Reader", "takesErrand", "()Z"⟩, 9) := ⟨⟨by decide +kernel, by decide +kernel⟩, List.mem_of_getElem? (i := 304) (by decide +kernel), List.mem_of_getElem? (i := 536) (by decide +kernel), List.mem_of_getElem? (i := 537) (by decide +kernel)⟩
theorem lw_p13 : lw_okq (⟨"OneBell$Reader", "takesRule", "()Z"⟩, 9) := ⟨⟨by decide +kernel, by decide +kernel⟩, List.mem_of_getElem? (i := 304) (by decide +kernel), List.mem_of_getElem? (i := 545) (by decide +kernel), List.mem_of_getElem? (i := 546) (by decide +kernel)⟩
theorem lw_p14 : lw_okq (⟨"OneBell$Reader", "takesEndOfItem", "()Z"⟩, 9) := ⟨⟨by decide +kernel, by decide +kernel⟩, List.mem_of_getElem? (i := 304) (by decide +kernel), List.mem_of_getElem? (i := 553) (by decide +kernel), List.mem_of_getElem? (i := 554) (by decide +kernel)⟩
theorem lw_p15 : lw_okq (⟨"OneBell", "isPull", "(II)Z"⟩, 13) := ⟨⟨by decide +kernel, by decide +kernel⟩, List.mem_of_getElem? (i := 22) (by decide +kernel), List.mem_of_getElem? (i := 569) (by decide +kernel), List.mem_of_getElem? (i := 570) (by decide +kernel)⟩
def lw_privs_1 : List (MethodName × Nat) := [(⟨"OneBell", "bad", "(I)I"⟩, 13), (⟨"OneBell", "tooMany", "()I"⟩, 13), (⟨"OneBell", "refusedNow", "()I"⟩, 13), (⟨"OneBell$Reader", "nextToken", "()V"⟩, 9), (⟨"OneBell$Reader", "endOfRun", "(ICC)I"⟩, 9), (⟨"OneBell$Reader", "takeFigures", "()V"⟩, 9), (⟨"OneBell$Reader", "takesItem", "()Z"⟩, 9), (⟨"OneBell$Reader", "isWord", "(Ljava/lang/String;)Z"⟩, 9), (⟨"OneBell$Reader", "takesThing", "()Z"⟩, 9), (⟨"OneBell$Reader", "takesNumber", "(III)Z"⟩, 9), (⟨"OneBell$Reader", "takesCut", "()Z"⟩, 9), (⟨"OneBell$Reader", "takesDamp", "()Z"⟩, 9), (⟨"OneBell$Reader", "takesErrand", "()Z"⟩, 9), (⟨"OneBell$Reader", "takesRule", "()Z"⟩, 9), (⟨"OneBell$Reader", "takesEndOfItem", "()Z"⟩, 9), (⟨"OneBell", "isPull", "(II)Z"⟩, 13)]
theorem lw_r1 : ∀ q ∈ lw_privs_1, lw_okq q := List.forall_mem_cons.mpr ⟨lw_p0, List.forall_mem_cons.mpr ⟨lw_p1, List.forall_mem_cons.mpr ⟨lw_p2, List.forall_mem_cons.mpr ⟨lw_p3, List.forall_mem_cons.mpr ⟨lw_p4, List.forall_mem_cons.mpr ⟨lw_p5, List.forall_mem_cons.mpr ⟨lw_p6, List.forall_mem_cons.mpr ⟨lw_p7, List.forall_mem_cons.mpr ⟨lw_p8, List.forall_mem_cons.mpr ⟨lw_p9, List.forall_mem_cons.mpr ⟨lw_p10, List.forall_mem_cons.mpr ⟨lw_p11, List.forall_mem_cons.mpr ⟨lw_p12, List.forall_mem_cons.mpr ⟨lw_p13, List.forall_mem_cons.mpr ⟨lw_p14, List.forall_mem_cons.mpr ⟨lw_p15, fun _ h => absurd h List.not_mem_nil⟩⟩⟩⟩⟩⟩⟩⟩⟩⟩⟩⟩⟩⟩⟩⟩
theorem lw_p16 : lw_okq (⟨"OneBell", "doSwing", "()I"⟩, 13) := ⟨⟨by decide +kernel, by decide +kernel⟩, List.mem_of_getElem? (i := 22) (by decide +kernel), List.mem_of_getElem? (i := 618) (by decide +kernel), List.mem_of_getElem? (i := 619) (by decide +kernel)⟩
theorem lw_p17 : lw_okq (⟨"OneBell$Day", "findRest", "(LOneBell$Village;IIII)V"⟩, 16) := ⟨⟨by decide +kernel, by decide +kernel⟩, List.mem_of_getElem? (i := 208) (by decide +kernel), List.mem_of_getElem? (i := 683) (by decide +kernel), List.mem_of_getElem? (i := 684) (by decide +kernel)⟩
theorem lw_p18 : lw_okq (⟨"OneBell$Day", "behind", "(II)I"⟩, 16) := ⟨⟨by decide +kernel, by decide +kernel⟩, List.mem_of_getElem? (i := 208) (by decide +kernel), List.mem_of_getElem? (i := 689) (by decide +kernel), List.mem_of_getElem? (i := 690) (by decide +kernel)⟩
theorem lw_p19 : lw_okq (⟨"OneBell$Day", "anyOpens", "(II)Z"⟩, 16) := ⟨⟨by decide +kernel, by decide +kernel⟩, List.mem_of_getElem? (i := 208) (by decide +kernel), List.mem_of_getElem? (i := 753) (by decide +kernel), List.mem_of_getElem? (i := 754) (by decide +kernel)⟩
theorem lw_p20 : lw_okq (⟨"OneBell$SlackSearch", "isSo", "(LOneBell$Village;III)Z"⟩, 9) := ⟨⟨by decide +kernel, by decide +kernel⟩, List.mem_of_getElem? (i := 268) (by decide +kernel), List.mem_of_getElem? (i := 774) (by decide +kernel), List.mem_of_getElem? (i := 775) (by decide +kernel)⟩
theorem lw_p21 : lw_okq (⟨"OneBell$SlackSearch", "sumsFor", "(LOneBell$Village;II)I"⟩, 9) := ⟨⟨by decide +kernel, by decide +kernel⟩, List.mem_of_getElem? (i := 268) (by decide +kernel), List.mem_of_getElem? (i := 782) (by decide +kernel), List.mem_of_getElem? (i := 783) (by decide +kernel)⟩
theorem lw_p22 : lw_okq (⟨"OneBell$SlackSearch", "narrowPairs", "(I)V"⟩, 9) := ⟨⟨by decide +kernel, by decide +kernel⟩, List.mem_of_getElem? (i := 268) (by decide +kernel), List.mem_of_getElem? (i := 791) (by decide +kernel), List.mem_of_getElem? (i := 792) (by decide +kernel)⟩
theorem lw_p23 : lw_okq (⟨"OneBell$SlackSearch", "strikesOut", "()Z"⟩, 9) := ⟨⟨by decide +kernel, by decide +kernel⟩, List.mem_of_getElem? (i := 268) (by decide +kernel), List.mem_of_getElem? (i := 795) (by decide +kernel), List.mem_of_getElem? (i := 796) (by decide +kernel)⟩
theorem lw_p24 : lw_okq (⟨"OneBell$SlackSearch", "fittedBySome", "(I)I"⟩, 9) := ⟨⟨by decide +kernel, by decide +kernel⟩, List.mem_of_getElem? (i := 268) (by decide +kernel), List.mem_of_getElem? (i := 799) (by decide +kernel), List.mem_of_getElem? (i := 800) (by decide +kernel)⟩
theorem lw_p25 : lw_okq (⟨"OneBell$SlackSearch", "fitsFrom", "(I)Z"⟩, 9) := ⟨⟨by decide +kernel, by decide +kernel⟩, List.mem_of_getElem? (i := 268) (by decide +kernel), List.mem_of_getElem? (i := 803) (by decide +kernel), List.mem_of_getElem? (i := 804) (by decide +kernel)⟩
theorem lw_p26 : lw_okq (⟨"OneBell$SlackSearch", "leavesSome", "(II)Z"⟩, 9) := ⟨⟨by decide +kernel, by decide +kernel⟩, List.mem_of_getElem? (i := 268) (by decide +kernel), List.mem_of_getElem? (i := 807) (by decide +kernel), List.mem_of_getElem? (i := 808) (by decide +kernel)⟩
theorem lw_p27 : lw_okq (⟨"OneBell", "keepFraction", "(II)V"⟩, 13) := ⟨⟨by decide +kernel, by decide +kernel⟩, List.mem_of_getElem? (i := 22) (by decide +kernel), List.mem_of_getElem? (i := 835) (by decide +kernel), List.mem_of_getElem? (i := 836) (by decide +kernel)⟩
theorem lw_p28 : lw_okq (⟨"OneBell", "howMany", "(I)I"⟩, 13) := ⟨⟨by decide +kernel, by decide +kernel⟩, List.mem_of_getElem? (i := 22) (by decide +kernel), List.mem_of_getElem? (i := 862) (by decide +kernel), List.mem_of_getElem? (i := 863) (by decide +kernel)⟩
theorem lw_p29 : lw_okq (⟨"OneBellModel", "bad", "(I)I"⟩, 24) := ⟨⟨by decide +kernel, by decide +kernel⟩, List.mem_of_getElem? (i := 878) (by decide +kernel), List.mem_of_getElem? (i := 966) (by decide +kernel), List.mem_of_getElem? (i := 967) (by decide +kernel)⟩
theorem lw_p30 : lw_okq (⟨"OneBellModel", "things", "()I"⟩, 24) := ⟨⟨by decide +kernel, by decide +kernel⟩, List.mem_of_getElem? (i := 878) (by decide +kernel), List.mem_of_getElem? (i := 970) (by decide +kernel), List.mem_of_getElem? (i := 971) (by decide +kernel)⟩
theorem lw_p31 : lw_okq (⟨"OneBellModel", "full", "()I"⟩, 24) := ⟨⟨by decide +kernel, by decide +kernel⟩, List.mem_of_getElem? (i := 878) (by decide +kernel), List.mem_of_getElem? (i := 974) (by decide +kernel), List.mem_of_getElem? (i := 975) (by decide +kernel)⟩
def lw_privs_2 : List (MethodName × Nat) := [(⟨"OneBell", "doSwing", "()I"⟩, 13), (⟨"OneBell$Day", "findRest", "(LOneBell$Village;IIII)V"⟩, 16), (⟨"OneBell$Day", "behind", "(II)I"⟩, 16), (⟨"OneBell$Day", "anyOpens", "(II)Z"⟩, 16), (⟨"OneBell$SlackSearch", "isSo", "(LOneBell$Village;III)Z"⟩, 9), (⟨"OneBell$SlackSearch", "sumsFor", "(LOneBell$Village;II)I"⟩, 9), (⟨"OneBell$SlackSearch", "narrowPairs", "(I)V"⟩, 9), (⟨"OneBell$SlackSearch", "strikesOut", "()Z"⟩, 9), (⟨"OneBell$SlackSearch", "fittedBySome", "(I)I"⟩, 9), (⟨"OneBell$SlackSearch", "fitsFrom", "(I)Z"⟩, 9), (⟨"OneBell$SlackSearch", "leavesSome", "(II)Z"⟩, 9), (⟨"OneBell", "keepFraction", "(II)V"⟩, 13), (⟨"OneBell", "howMany", "(I)I"⟩, 13), (⟨"OneBellModel", "bad", "(I)I"⟩, 24), (⟨"OneBellModel", "things", "()I"⟩, 24), (⟨"OneBellModel", "full", "()I"⟩, 24)]
theorem lw_r2 : ∀ q ∈ lw_privs_2, lw_okq q := List.forall_mem_cons.mpr ⟨lw_p16, List.forall_mem_cons.mpr ⟨lw_p17, List.forall_mem_cons.mpr ⟨lw_p18, List.forall_mem_cons.mpr ⟨lw_p19, List.forall_mem_cons.mpr ⟨lw_p20, List.forall_mem_cons.mpr ⟨lw_p21, List.forall_mem_cons.mpr ⟨lw_p22, List.forall_mem_cons.mpr ⟨lw_p23, List.forall_mem_cons.mpr ⟨lw_p24, List.forall_mem_cons.mpr ⟨lw_p25, List.forall_mem_cons.mpr ⟨lw_p26, List.forall_mem_cons.mpr ⟨lw_p27, List.forall_mem_cons.mpr ⟨lw_p28, List.forall_mem_cons.mpr ⟨lw_p29, List.forall_mem_cons.mpr ⟨lw_p30, List.forall_mem_cons.mpr ⟨lw_p31, fun _ h => absurd h List.not_mem_nil⟩⟩⟩⟩⟩⟩⟩⟩⟩⟩⟩⟩⟩⟩⟩⟩
theorem lw_p32 : lw_okq (⟨"OneBellModel", "isThing", "(I)Z"⟩, 24) := ⟨⟨by decide +kernel, by decide +kernel⟩, List.mem_of_getElem? (i := 878) (by decide +kernel), List.mem_of_getElem? (i := 985) (by decide +kernel), List.mem_of_getElem? (i := 986) (by decide +kernel)⟩
theorem lw_p33 : lw_okq (⟨"OneBellModel", "of", "(II)I"⟩, 24) := ⟨⟨by decide +kernel, by decide +kernel⟩, List.mem_of_getElem? (i := 878) (by decide +kernel), List.mem_of_getElem? (i := 989) (by decide +kernel), List.mem_of_getElem? (i := 990) (by decide +kernel)⟩
theorem lw_p34 : lw_okq (⟨"OneBellModel", "no", "(I)I"⟩, 24) := ⟨⟨by decide +kernel, by decide +kernel⟩, List.mem_of_getElem? (i := 878) (by decide +kernel), List.mem_of_getElem? (i := 993) (by decide +kernel), List.mem_of_getElem? (i := 994) (by decide +kernel)⟩
theorem lw_p35 : lw_okq (⟨"OneBellModel", "isPull", "(II)Z"⟩, 24) := ⟨⟨by decide +kernel, by decide +kernel⟩, List.mem_of_getElem? (i := 878) (by decide +kernel), List.mem_of_getElem? (i := 1005) (by decide +kernel), List.mem_of_getElem? (i := 1006) (by decide +kernel)⟩
theorem lw_p36 : lw_okq (⟨"OneBellModel", "takeNow", "()V"⟩, 24) := ⟨⟨by decide +kernel, by decide +kernel⟩, List.mem_of_getElem? (i := 878) (by decide +kernel), List.mem_of_getElem? (i := 1010) (by decide +kernel), List.mem_of_getElem? (i := 1011) (by decide +kernel)⟩
theorem lw_p37 : lw_okq (⟨"OneBellModel", "takeSlacks", "(I)V"⟩, 24) := ⟨⟨by decide +kernel, by decide +kernel⟩, List.mem_of_getElem? (i := 878) (by decide +kernel), List.mem_of_getElem? (i := 1014) (by decide +kernel), List.mem_of_getElem? (i := 1015) (by decide +kernel)⟩
theorem lw_p38 : lw_okq (⟨"OneBellModel", "wholeNow", "()I"⟩, 24) := ⟨⟨by decide +kernel, by decide +kernel⟩, List.mem_of_getElem? (i := 878) (by decide +kernel), List.mem_of_getElem? (i := 1018) (by decide +kernel), List.mem_of_getElem? (i := 1019) (by decide +kernel)⟩
theorem lw_p39 : lw_okq (⟨"OneBellModel", "onePull", "(II)V"⟩, 24) := ⟨⟨by decide +kernel, by decide +kernel⟩, List.mem_of_getElem? (i := 878) (by decide +kernel), List.mem_of_getElem? (i := 1022) (by decide +kernel), List.mem_of_getElem? (i := 1023) (by decide +kernel)⟩
theorem lw_p40 : lw_okq (⟨"OneBellModel", "goPull", "()I"⟩, 24) := ⟨⟨by decide +kernel, by decide +kernel⟩, List.mem_of_getElem? (i := 878) (by decide +kernel), List.mem_of_getElem? (i := 1026) (by decide +kernel), List.mem_of_getElem? (i := 1027) (by decide +kernel)⟩
theorem lw_p41 : lw_okq (⟨"OneBellModel", "behind", "(I)I"⟩, 24) := ⟨⟨by decide +kernel, by decide +kernel⟩, List.mem_of_getElem? (i := 878) (by decide +kernel), List.mem_of_getElem? (i := 1030) (by decide +kernel), List.mem_of_getElem? (i := 1031) (by decide +kernel)⟩
theorem lw_p42 : lw_okq (⟨"OneBellModel", "moveOf", "(I)I"⟩, 24) := ⟨⟨by decide +kernel, by decide +kernel⟩, List.mem_of_getElem? (i := 878) (by decide +kernel), List.mem_of_getElem? (i := 1034) (by decide +kernel), List.mem_of_getElem? (i := 1035) (by decide +kernel)⟩
theorem lw_p43 : lw_okq (⟨"OneBellModel", "travel", "()I"⟩, 24) := ⟨⟨by decide +kernel, by decide +kernel⟩, List.mem_of_getElem? (i := 878) (by decide +kernel), List.mem_of_getElem? (i := 1038) (by decide +kernel), List.mem_of_getElem? (i := 1039) (by decide +kernel)⟩
theorem lw_p44 : lw_okq (⟨"OneBellModel", "travelOf", "(II)I"⟩, 24) := ⟨⟨by decide +kernel, by decide +kernel⟩, List.mem_of_getElem? (i := 878) (by decide +kernel), List.mem_of_getElem? (i := 1042) (by decide +kernel), List.mem_of_getElem? (i := 1043) (by decide +kernel)⟩
theorem lw_p45 : lw_okq (⟨"OneBellModel", "errands", "()I"⟩, 24) := ⟨⟨by decide +kernel, by decide +kernel⟩, List.mem_of_getElem? (i := 878) (by decide +kernel), List.mem_of_getElem? (i := 1070) (by decide +kernel), List.mem_of_getElem? (i := 1071) (by decide +kernel)⟩
theorem lw_p46 : lw_okq (⟨"OneBellModel", "layOrder", "(I)Z"⟩, 24) := ⟨⟨by decide +kernel, by decide +kernel⟩, List.mem_of_getElem? (i := 878) (by decide +kernel), List.mem_of_getElem? (i := 1083) (by decide +kernel), List.mem_of_getElem? (i := 1084) (by decide +kernel)⟩
theorem lw_p47 : lw_okq (⟨"OneBellModel", "harmOfRow", "()I"⟩, 24) := ⟨⟨by decide +kernel, by decide +kernel⟩, List.mem_of_getElem? (i := 878) (by decide +kernel), List.mem_of_getElem? (i := 1090) (by decide +kernel), List.mem_of_getElem? (i := 1091) (by decide +kernel)⟩
def lw_privs_3 : List (MethodName × Nat) := [(⟨"OneBellModel", "isThing", "(I)Z"⟩, 24), (⟨"OneBellModel", "of", "(II)I"⟩, 24), (⟨"OneBellModel", "no", "(I)I"⟩, 24), (⟨"OneBellModel", "isPull", "(II)Z"⟩, 24), (⟨"OneBellModel", "takeNow", "()V"⟩, 24), (⟨"OneBellModel", "takeSlacks", "(I)V"⟩, 24), (⟨"OneBellModel", "wholeNow", "()I"⟩, 24), (⟨"OneBellModel", "onePull", "(II)V"⟩, 24), (⟨"OneBellModel", "goPull", "()I"⟩, 24), (⟨"OneBellModel", "behind", "(I)I"⟩, 24), (⟨"OneBellModel", "moveOf", "(I)I"⟩, 24), (⟨"OneBellModel", "travel", "()I"⟩, 24), (⟨"OneBellModel", "travelOf", "(II)I"⟩, 24), (⟨"OneBellModel", "errands", "()I"⟩, 24), (⟨"OneBellModel", "layOrder", "(I)Z"⟩, 24), (⟨"OneBellModel", "harmOfRow", "()I"⟩, 24)]
theorem lw_r3 : ∀ q ∈ lw_privs_3, lw_okq q := List.forall_mem_cons.mpr ⟨lw_p32, List.forall_mem_cons.mpr ⟨lw_p33, List.forall_mem_cons.mpr ⟨lw_p34, List.forall_mem_cons.mpr ⟨lw_p35, List.forall_mem_cons.mpr ⟨lw_p36, List.forall_mem_cons.mpr ⟨lw_p37, List.forall_mem_cons.mpr ⟨lw_p38, List.forall_mem_cons.mpr ⟨lw_p39, List.forall_mem_cons.mpr ⟨lw_p40, List.forall_mem_cons.mpr ⟨lw_p41, List.forall_mem_cons.mpr ⟨lw_p42, List.forall_mem_cons.mpr ⟨lw_p43, List.forall_mem_cons.mpr ⟨lw_p44, List.forall_mem_cons.mpr ⟨lw_p45, List.forall_mem_cons.mpr ⟨lw_p46, List.forall_mem_cons.mpr ⟨lw_p47, fun _ h => absurd h List.not_mem_nil⟩⟩⟩⟩⟩⟩⟩⟩⟩⟩⟩⟩⟩⟩⟩⟩
theorem lw_p48 : lw_okq (⟨"OneBellModel", "doErrand", "(II)I"⟩, 24) := ⟨⟨by decide +kernel, by decide +kernel⟩, List.mem_of_getElem? (i := 878) (by decide +kernel), List.mem_of_getElem? (i := 1094) (by decide +kernel), List.mem_of_getElem? (i := 1095) (by decide +kernel)⟩
theorem lw_p49 : lw_okq (⟨"OneBellModel", "harmOf", "(I)I"⟩, 24) := ⟨⟨by decide +kernel, by decide +kernel⟩, List.mem_of_getElem? (i := 878) (by decide +kernel), List.mem_of_getElem? (i := 1098) (by decide +kernel), List.mem_of_getElem? (i := 1099) (by decide +kernel)⟩
theorem lw_p50 : lw_okq (⟨"OneBellModel", "isSet", "(I)Z"⟩, 24) := ⟨⟨by decide +kernel, by decide +kernel⟩, List.mem_of_getElem? (i := 878) (by decide +kernel), List.mem_of_getElem? (i := 1106) (by decide +kernel), List.mem_of_getElem? (i := 1107) (by decide +kernel)⟩
theorem lw_p51 : lw_okq (⟨"OneBellModel", "all", "()I"⟩, 24) := ⟨⟨by decide +kernel, by decide +kernel⟩, List.mem_of_getElem? (i := 878) (by decide +kernel), List.mem_of_getElem? (i := 1110) (by decide +kernel), List.mem_of_getElem? (i := 1111) (by decide +kernel)⟩
theorem lw_p52 : lw_okq (⟨"OneBellModel", "findFar", "(I)V"⟩, 24) := ⟨⟨by decide +kernel, by decide +kernel⟩, List.mem_of_getElem? (i := 878) (by decide +kernel), List.mem_of_getElem? (i := 1114) (by decide +kernel), List.mem_of_getElem? (i := 1115) (by decide +kernel)⟩
theorem lw_p53 : lw_okq (⟨"OneBellModel", "rules", "()I"⟩, 24) := ⟨⟨by decide +kernel, by decide +kernel⟩, List.mem_of_getElem? (i := 878) (by decide +kernel), List.mem_of_getElem? (i := 1134) (by decide +kernel), List.mem_of_getElem? (i := 1135) (by decide +kernel)⟩
theorem lw_p54 : lw_okq (⟨"OneBellModel", "findSlacks", "(I)Z"⟩, 24) := ⟨⟨by decide +kernel, by decide +kernel⟩, List.mem_of_getElem? (i := 878) (by decide +kernel), List.mem_of_getElem? (i := 1149) (by decide +kernel), List.mem_of_getElem? (i := 1150) (by decide +kernel)⟩
theorem lw_p55 : lw_okq (⟨"OneBellModel", "isSo", "(I)Z"⟩, 24) := ⟨⟨by decide +kernel, by decide +kernel⟩, List.mem_of_getElem? (i := 878) (by decide +kernel), List.mem_of_getElem? (i := 1153) (by decide +kernel), List.mem_of_getElem? (i := 1154) (by decide +kernel)⟩
theorem lw_p56 : lw_okq (⟨"OneBellModel", "harmBy", "(I)I"⟩, 24) := ⟨⟨by decide +kernel, by decide +kernel⟩, List.mem_of_getElem? (i := 878) (by decide +kernel), List.mem_of_getElem? (i := 1168) (by decide +kernel), List.mem_of_getElem? (i := 1169) (by decide +kernel)⟩
theorem lw_p57 : lw_okq (⟨"OneBellModel", "look", "(I)V"⟩, 24) := ⟨⟨by decide +kernel, by decide +kernel⟩, List.mem_of_getElem? (i := 878) (by decide +kernel), List.mem_of_getElem? (i := 1186) (by decide +kernel), List.mem_of_getElem? (i := 1187) (by decide +kernel)⟩
theorem lw_p58 : lw_okq (⟨"OneBellModel", "readsItem", "()Z"⟩, 24) := ⟨⟨by decide +kernel, by decide +kernel⟩, List.mem_of_getElem? (i := 878) (by decide +kernel), List.mem_of_getElem? (i := 1200) (by decide +kernel), List.mem_of_getElem? (i := 1201) (by decide +kernel)⟩
theorem lw_p59 : lw_okq (⟨"OneBellModel", "isWord", "(IIIIII)Z"⟩, 24) := ⟨⟨by decide +kernel, by decide +kernel⟩, List.mem_of_getElem? (i := 878) (by decide +kernel), List.mem_of_getElem? (i := 1204) (by decide +kernel), List.mem_of_getElem? (i := 1205) (by decide +kernel)⟩
theorem lw_p60 : lw_okq (⟨"OneBellModel", "readsThing", "()Z"⟩, 24) := ⟨⟨by decide +kernel, by decide +kernel⟩, List.mem_of_getElem? (i := 878) (by decide +kernel), List.mem_of_getElem? (i := 1208) (by decide +kernel), List.mem_of_getElem? (i := 1209) (by decide +kernel)⟩
theorem lw_p61 : lw_okq (⟨"OneBellModel", "goOn", "()V"⟩, 24) := ⟨⟨by decide +kernel, by decide +kernel⟩, List.mem_of_getElem? (i := 878) (by decide +kernel), List.mem_of_getElem? (i := 1212) (by decide +kernel), List.mem_of_getElem? (i := 1213) (by decide +kernel)⟩
theorem lw_p62 : lw_okq (⟨"OneBellModel", "takes", "(III)Z"⟩, 24) := ⟨⟨by decide +kernel, by decide +kernel⟩, List.mem_of_getElem? (i := 878) (by decide +kernel), List.mem_of_getElem? (i := 1216) (by decide +kernel), List.mem_of_getElem? (i := 1217) (by decide +kernel)⟩
theorem lw_p63 : lw_okq (⟨"OneBellModel", "readsCut", "()Z"⟩, 24) := ⟨⟨by decide +kernel, by decide +kernel⟩, List.mem_of_getElem? (i := 878) (by decide +kernel), List.mem_of_getElem? (i := 1220) (by decide +kernel), List.mem_of_getElem? (i := 1221) (by decide +kernel)⟩
def lw_privs_4 : List (MethodName × Nat) := [(⟨"OneBellModel", "doErrand", "(II)I"⟩, 24), (⟨"OneBellModel", "harmOf", "(I)I"⟩, 24), (⟨"OneBellModel", "isSet", "(I)Z"⟩, 24), (⟨"OneBellModel", "all", "()I"⟩, 24), (⟨"OneBellModel", "findFar", "(I)V"⟩, 24), (⟨"OneBellModel", "rules", "()I"⟩, 24), (⟨"OneBellModel", "findSlacks", "(I)Z"⟩, 24), (⟨"OneBellModel", "isSo", "(I)Z"⟩, 24), (⟨"OneBellModel", "harmBy", "(I)I"⟩, 24), (⟨"OneBellModel", "look", "(I)V"⟩, 24), (⟨"OneBellModel", "readsItem", "()Z"⟩, 24), (⟨"OneBellModel", "isWord", "(IIIIII)Z"⟩, 24), (⟨"OneBellModel", "readsThing", "()Z"⟩, 24), (⟨"OneBellModel", "goOn", "()V"⟩, 24), (⟨"OneBellModel", "takes", "(III)Z"⟩, 24), (⟨"OneBellModel", "readsCut", "()Z"⟩, 24)]
theorem lw_r4 : ∀ q ∈ lw_privs_4, lw_okq q := List.forall_mem_cons.mpr ⟨lw_p48, List.forall_mem_cons.mpr ⟨lw_p49, List.forall_mem_cons.mpr ⟨lw_p50, List.forall_mem_cons.mpr ⟨lw_p51, List.forall_mem_cons.mpr ⟨lw_p52, List.forall_mem_cons.mpr ⟨lw_p53, List.forall_mem_cons.mpr ⟨lw_p54, List.forall_mem_cons.mpr ⟨lw_p55, List.forall_mem_cons.mpr ⟨lw_p56, List.forall_mem_cons.mpr ⟨lw_p57, List.forall_mem_cons.mpr ⟨lw_p58, List.forall_mem_cons.mpr ⟨lw_p59, List.forall_mem_cons.mpr ⟨lw_p60, List.forall_mem_cons.mpr ⟨lw_p61, List.forall_mem_cons.mpr ⟨lw_p62, List.forall_mem_cons.mpr ⟨lw_p63, fun _ h => absurd h List.not_mem_nil⟩⟩⟩⟩⟩⟩⟩⟩⟩⟩⟩⟩⟩⟩⟩⟩
theorem lw_p64 : lw_okq (⟨"OneBellModel", "readsErrand", "()Z"⟩, 24) := ⟨⟨by decide +kernel, by decide +kernel⟩, List.mem_of_getElem? (i := 878) (by decide +kernel), List.mem_of_getElem? (i := 1224) (by decide +kernel), List.mem_of_getElem? (i := 1225) (by decide +kernel)⟩
theorem lw_p65 : lw_okq (⟨"OneBellModel", "takesPull", "()Z"⟩, 24) := ⟨⟨by decide +kernel, by decide +kernel⟩, List.mem_of_getElem? (i := 878) (by decide +kernel), List.mem_of_getElem? (i := 1228) (by decide +kernel), List.mem_of_getElem? (i := 1229) (by decide +kernel)⟩
theorem lw_p66 : lw_okq (⟨"OneBellModel", "readsRule", "()Z"⟩, 24) := ⟨⟨by decide +kernel, by decide +kernel⟩, List.mem_of_getElem? (i := 878) (by decide +kernel), List.mem_of_getElem? (i := 1232) (by decide +kernel), List.mem_of_getElem? (i := 1233) (by decide +kernel)⟩
theorem lw_p67 : lw_okq (⟨"OneBellModel", "counted", "(I)I"⟩, 24) := ⟨⟨by decide +kernel, by decide +kernel⟩, List.mem_of_getElem? (i := 878) (by decide +kernel), List.mem_of_getElem? (i := 1258) (by decide +kernel), List.mem_of_getElem? (i := 1259) (by decide +kernel)⟩
theorem lw_p68 : lw_okq (⟨"OneBellModel", "sums", "(JII)J"⟩, 24) := ⟨⟨by decide +kernel, by decide +kernel⟩, List.mem_of_getElem? (i := 878) (by decide +kernel), List.mem_of_getElem? (i := 1268) (by decide +kernel), List.mem_of_getElem? (i := 1269) (by decide +kernel)⟩
def lw_privs_5 : List (MethodName × Nat) := [(⟨"OneBellModel", "readsErrand", "()Z"⟩, 24), (⟨"OneBellModel", "takesPull", "()Z"⟩, 24), (⟨"OneBellModel", "readsRule", "()Z"⟩, 24), (⟨"OneBellModel", "counted", "(I)I"⟩, 24), (⟨"OneBellModel", "sums", "(JII)J"⟩, 24)]
theorem lw_r5 : ∀ q ∈ lw_privs_5, lw_okq q := List.forall_mem_cons.mpr ⟨lw_p64, List.forall_mem_cons.mpr ⟨lw_p65, List.forall_mem_cons.mpr ⟨lw_p66, List.forall_mem_cons.mpr ⟨lw_p67, List.forall_mem_cons.mpr ⟨lw_p68, fun _ h => absurd h List.not_mem_nil⟩⟩⟩⟩⟩
def lw_privs : List (MethodName × Nat) := lw_privs_1 ++ (lw_privs_2 ++ (lw_privs_3 ++ (lw_privs_4 ++ (lw_privs_5))))
def lw_tbl : List Cond := k2_sels lw_privs ++ tables_1
theorem lw_privs_ok : ∀ q ∈ lw_privs, lw_okq q := by
  show ∀ q ∈ lw_privs_1 ++ (lw_privs_2 ++ (lw_privs_3 ++ (lw_privs_4 ++ (lw_privs_5)))), lw_okq q
  exact List.forall_mem_append.mpr ⟨lw_r1, List.forall_mem_append.mpr ⟨lw_r2, List.forall_mem_append.mpr ⟨lw_r3, List.forall_mem_append.mpr ⟨lw_r4, lw_r5⟩⟩⟩⟩
end
section

/-! ===== BEGIN printed: names, fields, word lists, decode rows ===== -/
def RX0 : String := "OneBell$Day"
def TX0 : u_T := fun k => match k with
  | 0 => ("OneBell$Day", "swing", "LOneBell$Swing;", true)
  | 1 => ("OneBell$Day", "errands", "I", false)
  | 2 => ("OneBell$Day", "counting", "[I", true)
  | 3 => ("OneBell$Day", "turned", "[I", true)
  | 4 => ("OneBell$Day", "rings", "[I", true)
  | 5 => ("OneBell$Day", "leastHarm", "I", false)
  | 6 => ("OneBell$Day", "bestRow", "[I", true)
  | 7 => ("OneBell$Day", "row", "[I", true)
  | 8 => ("OneBell$Day", "steps", "[I", true)
  | 9 => ("OneBell$Day", "cameFrom", "[I", true)
  | 10 => ("OneBell$Day", "cameBy", "[I", true)
  | 11 => ("OneBell$Day", "waiting", "[I", true)
  | 12 => ("OneBell$Day", "ends", "[I", true)
  | 13 => ("OneBell$Day", "shareAbove", "I", false)
  | 14 => ("OneBell$Day", "shareBelow", "I", false)
  | _ => ("OneBell$Day", "harmOfRopes", "[I", true)
def tyX0 : Nat → FieldType := fun k => match k with
  | 0 => .object "OneBell$Swing"
  | 1 => .int
  | 2 => .array .int
  | 3 => .array .int
  | 4 => .array .int
  | 5 => .int
  | 6 => .array .int
  | 7 => .array .int
  | 8 => .array .int
  | 9 => .array .int
  | 10 => .array .int
  | 11 => .array .int
  | 12 => .array .int
  | 13 => .int
  | 14 => .int
  | _ => .array .int
abbrev wsX00 : List Cond := u_ws RX0 TX0 16
theorem nmX0 : ∀ a, a < 16 → ∀ b, b < 16 → a ≠ b → (TX0 a).2.1 ≠ (TX0 b).2.1 := by decide +kernel
theorem tyX0_ok : ∀ k, k < 16 → parseFieldDescriptor (TX0 k).2.2.1 = some (tyX0 k) := by decide +kernel
abbrev cX0_init : ByteArray := prog_2_method_1_code
def yX0_init : MethodName := ⟨RX0, "<init>", "(LOneBell$Swing;)V"⟩
abbrev cX0_look : ByteArray := prog_2_method_2_code
def yX0_look : MethodName := ⟨RX0, "look", "(LOneBell$Village;I)V"⟩
abbrev cX0_behind : ByteArray := prog_2_method_3_code
def yX0_behind : MethodName := ⟨RX0, "behind", "(II)I"⟩
abbrev cX0_findOrder : ByteArray := prog_2_method_4_code
def yX0_findOrder : MethodName := ⟨RX0, "findOrder", "(LOneBell$Village;)V"⟩
abbrev cX0_findRest : ByteArray := prog_2_method_5_code
def yX0_findRest : MethodName := ⟨RX0, "findRest", "(LOneBell$Village;IIII)V"⟩
abbrev cX0_findCodes : ByteArray := prog_2_method_6_code
def yX0_findCodes : MethodName := ⟨RX0, "findCodes", "(LOneBell$Village;)V"⟩
abbrev cX0_stepTo : ByteArray := prog_2_method_7_code
def yX0_stepTo : MethodName := ⟨RX0, "stepTo", "(II)I"⟩
abbrev cX0_findEnds : ByteArray := prog_2_method_8_code
def yX0_findEnds : MethodName := ⟨RX0, "findEnds", "(LOneBell$Village;)V"⟩
abbrev cX0_howManyEndAt : ByteArray := prog_2_method_9_code
def yX0_howManyEndAt : MethodName := ⟨RX0, "howManyEndAt", "(I)I"⟩
abbrev cX0_leastThatEndsAt : ByteArray := prog_2_method_10_code
def yX0_leastThatEndsAt : MethodName := ⟨RX0, "leastThatEndsAt", "(I)I"⟩
abbrev cX0_thatRing : ByteArray := prog_2_method_11_code
def yX0_thatRing : MethodName := ⟨RX0, "thatRing", "(I)I"⟩
abbrev cX0_fewestCuts : ByteArray := prog_2_method_12_code
def yX0_fewestCuts : MethodName := ⟨RX0, "fewestCuts", "(LOneBell$Village;I)I"⟩
abbrev cX0_anyOpens : ByteArray := prog_2_method_13_code
def yX0_anyOpens : MethodName := ⟨RX0, "anyOpens", "(II)Z"⟩
abbrev cX0_findHarmOfRopes : ByteArray := prog_2_method_14_code
def yX0_findHarmOfRopes : MethodName := ⟨RX0, "findHarmOfRopes", "(LOneBell$Village;)V"⟩
abbrev cX0_weighShare : ByteArray := prog_2_method_15_code
def yX0_weighShare : MethodName := ⟨RX0, "weighShare", "(II)V"⟩
def RX1 : String := "OneBell$Door"
def TX1 : u_T := fun k => match k with
  | _ => ("", "", "", false)
def tyX1 : Nat → FieldType := fun k => match k with
  | _ => .int
abbrev wsX10 : List Cond := u_ws RX1 TX1 0
theorem nmX1 : ∀ a, a < 0 → ∀ b, b < 0 → a ≠ b → (TX1 a).2.1 ≠ (TX1 b).2.1 := by decide +kernel
theorem tyX1_ok : ∀ k, k < 0 → parseFieldDescriptor (TX1 k).2.2.1 = some (tyX1 k) := by decide +kernel
abbrev cX1_init : ByteArray := prog_3_method_1_code
def yX1_init : MethodName := ⟨RX1, "<init>", "()V"⟩
abbrev cX1_becomes : ByteArray := prog_3_method_2_code
def yX1_becomes : MethodName := ⟨RX1, "becomes", "(ZII)Z"⟩
def RX2 : String := "OneBell$Kinds"
def TX2 : u_T := fun k => match k with
  | 0 => ("OneBell$Kinds", "door", "LOneBell$Door;", true)
  | 1 => ("OneBell$Kinds", "latch", "LOneBell$Latch;", true)
  | 2 => ("OneBell$Kinds", "lid", "LOneBell$Lid;", true)
  | 3 => ("OneBell$Kinds", "wheel", "LOneBell$Wheel;", true)
  | _ => ("OneBell$Kinds", "sluice", "LOneBell$Sluice;", true)
def tyX2 : Nat → FieldType := fun k => match k with
  | 0 => .object "OneBell$Door"
  | 1 => .object "OneBell$Latch"
  | 2 => .object "OneBell$Lid"
  | 3 => .object "OneBell$Wheel"
  | _ => .object "OneBell$Sluice"
abbrev wsX20 : List Cond := u_ws RX2 TX2 5
theorem nmX2 : ∀ a, a < 5 → ∀ b, b < 5 → a ≠ b → (TX2 a).2.1 ≠ (TX2 b).2.1 := by decide +kernel
theorem tyX2_ok : ∀ k, k < 5 → parseFieldDescriptor (TX2 k).2.2.1 = some (tyX2 k) := by decide +kernel
abbrev cX2_init : ByteArray := prog_4_method_1_code
def yX2_init : MethodName := ⟨RX2, "<init>", "()V"⟩
abbrev cX2_ofNumber : ByteArray := prog_4_method_2_code
def yX2_ofNumber : MethodName := ⟨RX2, "ofNumber", "(I)LOneBell$Door;"⟩
def RX3 : String := "OneBell$Latch"
def TX3 : u_T := fun k => match k with
  | _ => ("", "", "", false)
def tyX3 : Nat → FieldType := fun k => match k with
  | _ => .int
abbrev wsX30 : List Cond := u_ws RX3 TX3 0
theorem nmX3 : ∀ a, a < 0 → ∀ b, b < 0 → a ≠ b → (TX3 a).2.1 ≠ (TX3 b).2.1 := by decide +kernel
theorem tyX3_ok : ∀ k, k < 0 → parseFieldDescriptor (TX3 k).2.2.1 = some (tyX3 k) := by decide +kernel
abbrev cX3_init : ByteArray := prog_5_method_1_code
def yX3_init : MethodName := ⟨RX3, "<init>", "()V"⟩
abbrev cX3_becomes : ByteArray := prog_5_method_2_code
def yX3_becomes : MethodName := ⟨RX3, "becomes", "(ZII)Z"⟩
def RX4 : String := "OneBell$Lid"
def TX4 : u_T := fun k => match k with
  | _ => ("", "", "", false)
def tyX4 : Nat → FieldType := fun k => match k with
  | _ => .int
abbrev wsX40 : List Cond := u_ws RX4 TX4 0
theorem nmX4 : ∀ a, a < 0 → ∀ b, b < 0 → a ≠ b → (TX4 a).2.1 ≠ (TX4 b).2.1 := by decide +kernel
theorem tyX4_ok : ∀ k, k < 0 → parseFieldDescriptor (TX4 k).2.2.1 = some (tyX4 k) := by decide +kernel
abbrev cX4_init : ByteArray := prog_6_method_1_code
def yX4_init : MethodName := ⟨RX4, "<init>", "()V"⟩
abbrev cX4_becomes : ByteArray := prog_6_method_2_code
def yX4_becomes : MethodName := ⟨RX4, "becomes", "(ZII)Z"⟩
def RX5 : String := "OneBell$Reader"
def TX5 : u_T := fun k => match k with
  | 0 => ("OneBell$Reader", "draft", "LOneBell$Village;", true)
  | 1 => ("OneBell$Reader", "items", "I", false)
  | 2 => ("OneBell$Reader", "start", "I", false)
  | 3 => ("OneBell$Reader", "text", "[I", false)
  | 4 => ("OneBell$Reader", "length", "I", false)
  | 5 => ("OneBell$Reader", "at", "I", false)
  | 6 => ("OneBell$Reader", "token", "I", false)
  | 7 => ("OneBell$Reader", "number", "I", false)
  | _ => ("OneBell$Reader", "numbers", "[I", true)
def tyX5 : Nat → FieldType := fun k => match k with
  | 0 => .object "OneBell$Village"
  | 1 => .int
  | 2 => .int
  | 3 => .array .int
  | 4 => .int
  | 5 => .int
  | 6 => .int
  | 7 => .int
  | _ => .array .int
abbrev wsX50 : List Cond := u_ws RX5 TX5 9
theorem nmX5 : ∀ a, a < 9 → ∀ b, b < 9 → a ≠ b → (TX5 a).2.1 ≠ (TX5 b).2.1 := by decide +kernel
theorem tyX5_ok : ∀ k, k < 9 → parseFieldDescriptor (TX5 k).2.2.1 = some (tyX5 k) := by decide +kernel
abbrev cX5_init : ByteArray := prog_7_method_1_code
def yX5_init : MethodName := ⟨RX5, "<init>", "()V"⟩
abbrev cX5_takes : ByteArray := prog_7_method_2_code
def yX5_takes : MethodName := ⟨RX5, "takes", "([II)Z"⟩
abbrev cX5_takesItem : ByteArray := prog_7_method_3_code
def yX5_takesItem : MethodName := ⟨RX5, "takesItem", "()Z"⟩
abbrev cX5_takesThing : ByteArray := prog_7_method_4_code
def yX5_takesThing : MethodName := ⟨RX5, "takesThing", "()Z"⟩
abbrev cX5_takesCut : ByteArray := prog_7_method_5_code
def yX5_takesCut : MethodName := ⟨RX5, "takesCut", "()Z"⟩
abbrev cX5_takesDamp : ByteArray := prog_7_method_6_code
def yX5_takesDamp : MethodName := ⟨RX5, "takesDamp", "()Z"⟩
abbrev cX5_takesErrand : ByteArray := prog_7_method_7_code
def yX5_takesErrand : MethodName := ⟨RX5, "takesErrand", "()Z"⟩
abbrev cX5_takesRule : ByteArray := prog_7_method_8_code
def yX5_takesRule : MethodName := ⟨RX5, "takesRule", "()Z"⟩
abbrev cX5_takesNumber : ByteArray := prog_7_method_9_code
def yX5_takesNumber : MethodName := ⟨RX5, "takesNumber", "(III)Z"⟩
abbrev cX5_takesEndOfItem : ByteArray := prog_7_method_10_code
def yX5_takesEndOfItem : MethodName := ⟨RX5, "takesEndOfItem", "()Z"⟩
abbrev cX5_nextToken : ByteArray := prog_7_method_11_code
def yX5_nextToken : MethodName := ⟨RX5, "nextToken", "()V"⟩
abbrev cX5_endOfRun : ByteArray := prog_7_method_12_code
def yX5_endOfRun : MethodName := ⟨RX5, "endOfRun", "(ICC)I"⟩
abbrev cX5_takeFigures : ByteArray := prog_7_method_13_code
def yX5_takeFigures : MethodName := ⟨RX5, "takeFigures", "()V"⟩
abbrev cX5_isWord : ByteArray := prog_7_method_14_code
def yX5_isWord : MethodName := ⟨RX5, "isWord", "(Ljava/lang/String;)Z"⟩
def RX6 : String := "OneBell$SlackSearch"
def TX6 : u_T := fun k => match k with
  | 0 => ("OneBell$SlackSearch", "kinds", "LOneBell$Kinds;", true)
  | 1 => ("OneBell$SlackSearch", "things", "I", false)
  | 2 => ("OneBell$SlackSearch", "rules", "I", false)
  | 3 => ("OneBell$SlackSearch", "pulled", "[I", true)
  | 4 => ("OneBell$SlackSearch", "canBe", "[Z", true)
  | 5 => ("OneBell$SlackSearch", "sumsByRule", "[I", true)
  | 6 => ("OneBell$SlackSearch", "sumsByPair", "[I", true)
  | 7 => ("OneBell$SlackSearch", "left", "[I", true)
  | _ => ("OneBell$SlackSearch", "row", "[I", true)
def tyX6 : Nat → FieldType := fun k => match k with
  | 0 => .object "OneBell$Kinds"
  | 1 => .int
  | 2 => .int
  | 3 => .array .int
  | 4 => .array .boolean
  | 5 => .array .int
  | 6 => .array .int
  | 7 => .array .int
  | _ => .array .int
abbrev wsX60 : List Cond := u_ws RX6 TX6 9
theorem nmX6 : ∀ a, a < 9 → ∀ b, b < 9 → a ≠ b → (TX6 a).2.1 ≠ (TX6 b).2.1 := by decide +kernel
theorem tyX6_ok : ∀ k, k < 9 → parseFieldDescriptor (TX6 k).2.2.1 = some (tyX6 k) := by decide +kernel
abbrev cX6_init : ByteArray := prog_8_method_1_code
def yX6_init : MethodName := ⟨RX6, "<init>", "(LOneBell$Kinds;)V"⟩
abbrev cX6_learn : ByteArray := prog_8_method_2_code
def yX6_learn : MethodName := ⟨RX6, "learn", "(LOneBell$Village;)V"⟩
abbrev cX6_sumsFor : ByteArray := prog_8_method_3_code
def yX6_sumsFor : MethodName := ⟨RX6, "sumsFor", "(LOneBell$Village;II)I"⟩
abbrev cX6_isSo : ByteArray := prog_8_method_4_code
def yX6_isSo : MethodName := ⟨RX6, "isSo", "(LOneBell$Village;III)Z"⟩
abbrev cX6_fewestGivenUp : ByteArray := prog_8_method_5_code
def yX6_fewestGivenUp : MethodName := ⟨RX6, "fewestGivenUp", "()I"⟩
abbrev cX6_fitsWithout : ByteArray := prog_8_method_6_code
def yX6_fitsWithout : MethodName := ⟨RX6, "fitsWithout", "(I)Z"⟩
abbrev cX6_narrowPairs : ByteArray := prog_8_method_7_code
def yX6_narrowPairs : MethodName := ⟨RX6, "narrowPairs", "(I)V"⟩
abbrev cX6_strikesOut : ByteArray := prog_8_method_8_code
def yX6_strikesOut : MethodName := ⟨RX6, "strikesOut", "()Z"⟩
abbrev cX6_fittedBySome : ByteArray := prog_8_method_9_code
def yX6_fittedBySome : MethodName := ⟨RX6, "fittedBySome", "(I)I"⟩
abbrev cX6_fitsFrom : ByteArray := prog_8_method_10_code
def yX6_fitsFrom : MethodName := ⟨RX6, "fitsFrom", "(I)Z"⟩
abbrev cX6_leavesSome : ByteArray := prog_8_method_11_code
def yX6_leavesSome : MethodName := ⟨RX6, "leavesSome", "(II)Z"⟩
def RX7 : String := "OneBell$Sluice"
def TX7 : u_T := fun k => match k with
  | _ => ("", "", "", false)
def tyX7 : Nat → FieldType := fun k => match k with
  | _ => .int
abbrev wsX70 : List Cond := u_ws RX7 TX7 0
theorem nmX7 : ∀ a, a < 0 → ∀ b, b < 0 → a ≠ b → (TX7 a).2.1 ≠ (TX7 b).2.1 := by decide +kernel
theorem tyX7_ok : ∀ k, k < 0 → parseFieldDescriptor (TX7 k).2.2.1 = some (tyX7 k) := by decide +kernel
abbrev cX7_init : ByteArray := prog_9_method_1_code
def yX7_init : MethodName := ⟨RX7, "<init>", "()V"⟩
abbrev cX7_becomes : ByteArray := prog_9_method_2_code
def yX7_becomes : MethodName := ⟨RX7, "becomes", "(ZII)Z"⟩
def RX8 : String := "OneBell$Swing"
def TX8 : u_T := fun k => match k with
  | 0 => ("OneBell$Swing", "kinds", "LOneBell$Kinds;", true)
  | 1 => ("OneBell$Swing", "first", "I", false)
  | 2 => ("OneBell$Swing", "firstInches", "I", false)
  | 3 => ("OneBell$Swing", "second", "I", false)
  | 4 => ("OneBell$Swing", "secondInches", "I", false)
  | 5 => ("OneBell$Swing", "travel", "I", false)
  | 6 => ("OneBell$Swing", "counting", "I", false)
  | _ => ("OneBell$Swing", "turned", "I", false)
def tyX8 : Nat → FieldType := fun k => match k with
  | 0 => .object "OneBell$Kinds"
  | 1 => .int
  | 2 => .int
  | 3 => .int
  | 4 => .int
  | 5 => .int
  | 6 => .int
  | _ => .int
abbrev wsX80 : List Cond := u_ws RX8 TX8 8
theorem nmX8 : ∀ a, a < 8 → ∀ b, b < 8 → a ≠ b → (TX8 a).2.1 ≠ (TX8 b).2.1 := by decide +kernel
theorem tyX8_ok : ∀ k, k < 8 → parseFieldDescriptor (TX8 k).2.2.1 = some (tyX8 k) := by decide +kernel
abbrev cX8_init : ByteArray := prog_10_method_1_code
def yX8_init : MethodName := ⟨RX8, "<init>", "(LOneBell$Kinds;)V"⟩
abbrev cX8_by : ByteArray := prog_10_method_2_code
def yX8_by : MethodName := ⟨RX8, "by", "(LOneBell$Village;IIIII)V"⟩
abbrev cX8_rings : ByteArray := prog_10_method_3_code
def yX8_rings : MethodName := ⟨RX8, "rings", "()I"⟩
abbrev cX8_behind : ByteArray := prog_10_method_4_code
def yX8_behind : MethodName := ⟨RX8, "behind", "(I)I"⟩
abbrev cX8_moveOf : ByteArray := prog_10_method_5_code
def yX8_moveOf : MethodName := ⟨RX8, "moveOf", "(LOneBell$Village;II)I"⟩
abbrev cX8_travelBy : ByteArray := prog_10_method_6_code
def yX8_travelBy : MethodName := ⟨RX8, "travelBy", "(LOneBell$Village;III)I"⟩
def RX9 : String := "OneBell$Village"
def TX9 : u_T := fun k => match k with
  | 0 => ("OneBell$Village", "things", "I", false)
  | 1 => ("OneBell$Village", "kind", "[I", true)
  | 2 => ("OneBell$Village", "slack", "[I", true)
  | 3 => ("OneBell$Village", "stop", "[I", true)
  | 4 => ("OneBell$Village", "harm", "[I", true)
  | 5 => ("OneBell$Village", "whole", "I", false)
  | 6 => ("OneBell$Village", "damp", "I", false)
  | 7 => ("OneBell$Village", "open", "I", false)
  | 8 => ("OneBell$Village", "errands", "I", false)
  | 9 => ("OneBell$Village", "errandThing", "[I", true)
  | 10 => ("OneBell$Village", "errandInches", "[I", true)
  | 11 => ("OneBell$Village", "rules", "I", false)
  | 12 => ("OneBell$Village", "ruleThing", "[I", true)
  | 13 => ("OneBell$Village", "ruleInches", "[I", true)
  | 14 => ("OneBell$Village", "ruleSet", "[I", true)
  | 15 => ("OneBell$Village", "pasts", "I", false)
  | _ => ("OneBell$Village", "past", "[I", true)
def tyX9 : Nat → FieldType := fun k => match k with
  | 0 => .int
  | 1 => .array .int
  | 2 => .array .int
  | 3 => .array .int
  | 4 => .array .int
  | 5 => .int
  | 6 => .int
  | 7 => .int
  | 8 => .int
  | 9 => .array .int
  | 10 => .array .int
  | 11 => .int
  | 12 => .array .int
  | 13 => .array .int
  | 14 => .array .int
  | 15 => .int
  | _ => .array .int
abbrev wsX90 : List Cond := u_ws RX9 TX9 17
theorem nmX9 : ∀ a, a < 17 → ∀ b, b < 17 → a ≠ b → (TX9 a).2.1 ≠ (TX9 b).2.1 := by decide +kernel
theorem tyX9_ok : ∀ k, k < 17 → parseFieldDescriptor (TX9 k).2.2.1 = some (tyX9 k) := by decide +kernel
abbrev cX9_init : ByteArray := prog_11_method_1_code
def yX9_init : MethodName := ⟨RX9, "<init>", "()V"⟩
abbrev cX9_becomeEmpty : ByteArray := prog_11_method_2_code
def yX9_becomeEmpty : MethodName := ⟨RX9, "becomeEmpty", "()V"⟩
abbrev cX9_becomeLike : ByteArray := prog_11_method_3_code
def yX9_becomeLike : MethodName := ⟨RX9, "becomeLike", "(LOneBell$Village;)V"⟩
abbrev cX9_hasThing : ByteArray := prog_11_method_4_code
def yX9_hasThing : MethodName := ⟨RX9, "hasThing", "(I)Z"⟩
abbrev cX9_hasSet : ByteArray := prog_11_method_5_code
def yX9_hasSet : MethodName := ⟨RX9, "hasSet", "(I)Z"⟩
abbrev cX9_addThing : ByteArray := prog_11_method_6_code
def yX9_addThing : MethodName := ⟨RX9, "addThing", "(IIII)V"⟩
abbrev cX9_addErrand : ByteArray := prog_11_method_7_code
def yX9_addErrand : MethodName := ⟨RX9, "addErrand", "(II)V"⟩
abbrev cX9_addRule : ByteArray := prog_11_method_8_code
def yX9_addRule : MethodName := ⟨RX9, "addRule", "(III)V"⟩
abbrev cX9_slackInDamp : ByteArray := prog_11_method_9_code
def yX9_slackInDamp : MethodName := ⟨RX9, "slackInDamp", "(I)I"⟩
abbrev cX9_harmOf : ByteArray := prog_11_method_10_code
def yX9_harmOf : MethodName := ⟨RX9, "harmOf", "(I)I"⟩
abbrev cX9_remember : ByteArray := prog_11_method_11_code
def yX9_remember : MethodName := ⟨RX9, "remember", "()V"⟩
abbrev cX9_goBack : ByteArray := prog_11_method_12_code
def yX9_goBack : MethodName := ⟨RX9, "goBack", "()V"⟩
abbrev cX9_mixInto : ByteArray := prog_11_method_13_code
def yX9_mixInto : MethodName := ⟨RX9, "mixInto", "(J)J"⟩
def RX10 : String := "OneBell$Wheel"
def TX10 : u_T := fun k => match k with
  | _ => ("", "", "", false)
def tyX10 : Nat → FieldType := fun k => match k with
  | _ => .int
abbrev wsX100 : List Cond := u_ws RX10 TX10 0
theorem nmX10 : ∀ a, a < 0 → ∀ b, b < 0 → a ≠ b → (TX10 a).2.1 ≠ (TX10 b).2.1 := by decide +kernel
theorem tyX10_ok : ∀ k, k < 0 → parseFieldDescriptor (TX10 k).2.2.1 = some (tyX10 k) := by decide +kernel
abbrev cX10_init : ByteArray := prog_12_method_1_code
def yX10_init : MethodName := ⟨RX10, "<init>", "()V"⟩
abbrev cX10_becomes : ByteArray := prog_12_method_2_code
def yX10_becomes : MethodName := ⟨RX10, "becomes", "(ZII)Z"⟩
def RX11 : String := "OneBell"
def TX11 : u_T := fun k => match k with
  | 0 => ("OneBell", "now", "LOneBell$Village;", true)
  | 1 => ("OneBell", "images", "[LOneBell$Village;", true)
  | 2 => ("OneBell", "text", "[I", true)
  | 3 => ("OneBell", "length", "I", false)
  | 4 => ("OneBell", "above", "J", false)
  | 5 => ("OneBell", "below", "J", false)
  | 6 => ("OneBell", "bads", "I", false)
  | 7 => ("OneBell", "nos", "I", false)
  | 8 => ("OneBell", "fulls", "I", false)
  | 9 => ("OneBell", "swing", "LOneBell$Swing;", true)
  | 10 => ("OneBell", "day", "LOneBell$Day;", true)
  | 11 => ("OneBell", "search", "LOneBell$SlackSearch;", true)
  | _ => ("OneBell", "reader", "LOneBell$Reader;", true)
def tyX11 : Nat → FieldType := fun k => match k with
  | 0 => .object "OneBell$Village"
  | 1 => .array (.object "OneBell$Village")
  | 2 => .array .int
  | 3 => .int
  | 4 => .long
  | 5 => .long
  | 6 => .int
  | 7 => .int
  | 8 => .int
  | 9 => .object "OneBell$Swing"
  | 10 => .object "OneBell$Day"
  | 11 => .object "OneBell$SlackSearch"
  | _ => .object "OneBell$Reader"
abbrev wsX110 : List Cond := u_ws RX11 TX11 13
theorem nmX11 : ∀ a, a < 13 → ∀ b, b < 13 → a ≠ b → (TX11 a).2.1 ≠ (TX11 b).2.1 := by decide +kernel
theorem tyX11_ok : ∀ k, k < 13 → parseFieldDescriptor (TX11 k).2.2.1 = some (tyX11 k) := by decide +kernel
abbrev cX11_init : ByteArray := prog_1_method_1_code
def yX11_init : MethodName := ⟨RX11, "<init>", "()V"⟩
abbrev cX11_thing : ByteArray := prog_1_method_2_code
def yX11_thing : MethodName := ⟨RX11, "thing", "(IIII)I"⟩
abbrev cX11_rope : ByteArray := prog_1_method_3_code
def yX11_rope : MethodName := ⟨RX11, "rope", "(IZ)I"⟩
abbrev cX11_damp : ByteArray := prog_1_method_4_code
def yX11_damp : MethodName := ⟨RX11, "damp", "(I)I"⟩
abbrev cX11_type : ByteArray := prog_1_method_5_code
def yX11_type : MethodName := ⟨RX11, "type", "(JI)I"⟩
abbrev cX11_clear : ByteArray := prog_1_method_6_code
def yX11_clear : MethodName := ⟨RX11, "clear", "()I"⟩
abbrev cX11_read : ByteArray := prog_1_method_7_code
def yX11_read : MethodName := ⟨RX11, "read", "()I"⟩
abbrev cX11_pull : ByteArray := prog_1_method_8_code
def yX11_pull : MethodName := ⟨RX11, "pull", "(II)I"⟩
abbrev cX11_both : ByteArray := prog_1_method_9_code
def yX11_both : MethodName := ⟨RX11, "both", "(IIII)I"⟩
abbrev cX11_would : ByteArray := prog_1_method_10_code
def yX11_would : MethodName := ⟨RX11, "would", "(II)I"⟩
abbrev cX11_open : ByteArray := prog_1_method_11_code
def yX11_open : MethodName := ⟨RX11, "open", "()I"⟩
abbrev cX11_moves : ByteArray := prog_1_method_12_code
def yX11_moves : MethodName := ⟨RX11, "moves", "(III)I"⟩
abbrev cX11_undo : ByteArray := prog_1_method_13_code
def yX11_undo : MethodName := ⟨RX11, "undo", "()I"⟩
abbrev cX11_errand : ByteArray := prog_1_method_14_code
def yX11_errand : MethodName := ⟨RX11, "errand", "(II)I"⟩
abbrev cX11_drop : ByteArray := prog_1_method_15_code
def yX11_drop : MethodName := ⟨RX11, "drop", "()I"⟩
abbrev cX11_order : ByteArray := prog_1_method_16_code
def yX11_order : MethodName := ⟨RX11, "order", "(I)I"⟩
abbrev cX11_code : ByteArray := prog_1_method_17_code
def yX11_code : MethodName := ⟨RX11, "code", "(II)I"⟩
abbrev cX11_who : ByteArray := prog_1_method_18_code
def yX11_who : MethodName := ⟨RX11, "who", "(II)I"⟩
abbrev cX11_heard : ByteArray := prog_1_method_19_code
def yX11_heard : MethodName := ⟨RX11, "heard", "(I)I"⟩
abbrev cX11_cuts : ByteArray := prog_1_method_20_code
def yX11_cuts : MethodName := ⟨RX11, "cuts", "(I)I"⟩
abbrev cX11_rule : ByteArray := prog_1_method_21_code
def yX11_rule : MethodName := ⟨RX11, "rule", "(III)I"⟩
abbrev cX11_free : ByteArray := prog_1_method_22_code
def yX11_free : MethodName := ⟨RX11, "free", "()I"⟩
abbrev cX11_slack : ByteArray := prog_1_method_23_code
def yX11_slack : MethodName := ⟨RX11, "slack", "(I)I"⟩
abbrev cX11_giveUp : ByteArray := prog_1_method_24_code
def yX11_giveUp : MethodName := ⟨RX11, "giveUp", "()I"⟩
abbrev cX11_share : ByteArray := prog_1_method_25_code
def yX11_share : MethodName := ⟨RX11, "share", "(I)I"⟩
abbrev cX11_part : ByteArray := prog_1_method_26_code
def yX11_part : MethodName := ⟨RX11, "part", "(I)J"⟩
abbrev cX11_image : ByteArray := prog_1_method_27_code
def yX11_image : MethodName := ⟨RX11, "image", "(I)I"⟩
abbrev cX11_from : ByteArray := prog_1_method_28_code
def yX11_from : MethodName := ⟨RX11, "from", "(I)I"⟩
abbrev cX11_status : ByteArray := prog_1_method_29_code
def yX11_status : MethodName := ⟨RX11, "status", "(I)I"⟩
abbrev cX11_count : ByteArray := prog_1_method_30_code
def yX11_count : MethodName := ⟨RX11, "count", "(I)I"⟩
abbrev cX11_digest : ByteArray := prog_1_method_31_code
def yX11_digest : MethodName := ⟨RX11, "digest", "()J"⟩
abbrev cX11_within : ByteArray := prog_1_method_32_code
def yX11_within : MethodName := ⟨RX11, "within", "(III)Z"⟩
abbrev cX11_has : ByteArray := prog_1_method_33_code
def yX11_has : MethodName := ⟨RX11, "has", "(II)Z"⟩
abbrev cX11_isPull : ByteArray := prog_1_method_34_code
def yX11_isPull : MethodName := ⟨RX11, "isPull", "(II)Z"⟩
abbrev cX11_bad : ByteArray := prog_1_method_35_code
def yX11_bad : MethodName := ⟨RX11, "bad", "(I)I"⟩
abbrev cX11_refusedNow : ByteArray := prog_1_method_36_code
def yX11_refusedNow : MethodName := ⟨RX11, "refusedNow", "()I"⟩
abbrev cX11_tooMany : ByteArray := prog_1_method_37_code
def yX11_tooMany : MethodName := ⟨RX11, "tooMany", "()I"⟩
abbrev cX11_doSwing : ByteArray := prog_1_method_38_code
def yX11_doSwing : MethodName := ⟨RX11, "doSwing", "()I"⟩
abbrev cX11_howMany : ByteArray := prog_1_method_39_code
def yX11_howMany : MethodName := ⟨RX11, "howMany", "(I)I"⟩
abbrev cX11_keepFraction : ByteArray := prog_1_method_40_code
def yX11_keepFraction : MethodName := ⟨RX11, "keepFraction", "(II)V"⟩
def RX12 : String := "OneBellModel"
def TX12 : u_T := fun k => match k with
  | 0 => ("OneBellModel", "now", "[I", true)
  | 1 => ("OneBellModel", "kept", "[I", true)
  | 2 => ("OneBellModel", "isKept", "[Z", true)
  | 3 => ("OneBellModel", "refused", "[I", true)
  | 4 => ("OneBellModel", "above", "J", false)
  | 5 => ("OneBellModel", "below", "J", false)
  | 6 => ("OneBellModel", "slacks", "[I", true)
  | 7 => ("OneBellModel", "whole", "I", false)
  | 8 => ("OneBellModel", "first", "I", false)
  | 9 => ("OneBellModel", "firstBy", "I", false)
  | 10 => ("OneBellModel", "second", "I", false)
  | 11 => ("OneBellModel", "secondBy", "I", false)
  | 12 => ("OneBellModel", "row", "[I", true)
  | 13 => ("OneBellModel", "bestRow", "[I", true)
  | 14 => ("OneBellModel", "least", "I", false)
  | 15 => ("OneBellModel", "far", "[I", true)
  | 16 => ("OneBellModel", "bytes", "[I", true)
  | 17 => ("OneBellModel", "bytesLong", "I", false)
  | 18 => ("OneBellModel", "tokenAt", "I", false)
  | 19 => ("OneBellModel", "tokenLong", "I", false)
  | 20 => ("OneBellModel", "token", "I", false)
  | 21 => ("OneBellModel", "value", "I", false)
  | 22 => ("OneBellModel", "next", "[I", true)
  | _ => ("OneBellModel", "values", "[I", true)
def tyX12 : Nat → FieldType := fun k => match k with
  | 0 => .array .int
  | 1 => .array .int
  | 2 => .array .boolean
  | 3 => .array .int
  | 4 => .long
  | 5 => .long
  | 6 => .array .int
  | 7 => .int
  | 8 => .int
  | 9 => .int
  | 10 => .int
  | 11 => .int
  | 12 => .array .int
  | 13 => .array .int
  | 14 => .int
  | 15 => .array .int
  | 16 => .array .int
  | 17 => .int
  | 18 => .int
  | 19 => .int
  | 20 => .int
  | 21 => .int
  | 22 => .array .int
  | _ => .array .int
abbrev wsX120 : List Cond := u_ws RX12 TX12 24
theorem nmX12 : ∀ a, a < 24 → ∀ b, b < 24 → a ≠ b → (TX12 a).2.1 ≠ (TX12 b).2.1 := by decide +kernel
theorem tyX12_ok : ∀ k, k < 24 → parseFieldDescriptor (TX12 k).2.2.1 = some (tyX12 k) := by decide +kernel
abbrev cX12_init : ByteArray := prog_14_method_1_code
def yX12_init : MethodName := ⟨RX12, "<init>", "()V"⟩
abbrev cX12_in : ByteArray := prog_14_method_3_code
def yX12_in : MethodName := ⟨RX12, "in", "(JJJ)Z"⟩
abbrev cX12_bad : ByteArray := prog_14_method_4_code
def yX12_bad : MethodName := ⟨RX12, "bad", "(I)I"⟩
abbrev cX12_no : ByteArray := prog_14_method_5_code
def yX12_no : MethodName := ⟨RX12, "no", "(I)I"⟩
abbrev cX12_full : ByteArray := prog_14_method_6_code
def yX12_full : MethodName := ⟨RX12, "full", "()I"⟩
abbrev cX12_bits : ByteArray := prog_14_method_7_code
def yX12_bits : MethodName := ⟨RX12, "bits", "(I)I"⟩
abbrev cX12_things : ByteArray := prog_14_method_8_code
def yX12_things : MethodName := ⟨RX12, "things", "()I"⟩
abbrev cX12_isThing : ByteArray := prog_14_method_9_code
def yX12_isThing : MethodName := ⟨RX12, "isThing", "(I)Z"⟩
abbrev cX12_all : ByteArray := prog_14_method_10_code
def yX12_all : MethodName := ⟨RX12, "all", "()I"⟩
abbrev cX12_of : ByteArray := prog_14_method_11_code
def yX12_of : MethodName := ⟨RX12, "of", "(II)I"⟩
abbrev cX12_layThing : ByteArray := prog_14_method_12_code
def yX12_layThing : MethodName := ⟨RX12, "layThing", "([IIIII)V"⟩
abbrev cX12_thing : ByteArray := prog_14_method_13_code
def yX12_thing : MethodName := ⟨RX12, "thing", "(IIII)I"⟩
abbrev cX12_rope : ByteArray := prog_14_method_14_code
def yX12_rope : MethodName := ⟨RX12, "rope", "(IZ)I"⟩
abbrev cX12_damp : ByteArray := prog_14_method_15_code
def yX12_damp : MethodName := ⟨RX12, "damp", "(I)I"⟩
abbrev cX12_wholeNow : ByteArray := prog_14_method_16_code
def yX12_wholeNow : MethodName := ⟨RX12, "wholeNow", "()I"⟩
abbrev cX12_takeSlacks : ByteArray := prog_14_method_17_code
def yX12_takeSlacks : MethodName := ⟨RX12, "takeSlacks", "(I)V"⟩
abbrev cX12_takeNow : ByteArray := prog_14_method_18_code
def yX12_takeNow : MethodName := ⟨RX12, "takeNow", "()V"⟩
abbrev cX12_onePull : ByteArray := prog_14_method_19_code
def yX12_onePull : MethodName := ⟨RX12, "onePull", "(II)V"⟩
abbrev cX12_travelOf : ByteArray := prog_14_method_20_code
def yX12_travelOf : MethodName := ⟨RX12, "travelOf", "(II)I"⟩
abbrev cX12_travel : ByteArray := prog_14_method_21_code
def yX12_travel : MethodName := ⟨RX12, "travel", "()I"⟩
abbrev cX12_moveOf : ByteArray := prog_14_method_22_code
def yX12_moveOf : MethodName := ⟨RX12, "moveOf", "(I)I"⟩
abbrev cX12_behind : ByteArray := prog_14_method_23_code
def yX12_behind : MethodName := ⟨RX12, "behind", "(I)I"⟩
abbrev cX12_harmOf : ByteArray := prog_14_method_24_code
def yX12_harmOf : MethodName := ⟨RX12, "harmOf", "(I)I"⟩
abbrev cX12_goPull : ByteArray := prog_14_method_25_code
def yX12_goPull : MethodName := ⟨RX12, "goPull", "()I"⟩
abbrev cX12_isPull : ByteArray := prog_14_method_26_code
def yX12_isPull : MethodName := ⟨RX12, "isPull", "(II)Z"⟩
abbrev cX12_pull : ByteArray := prog_14_method_27_code
def yX12_pull : MethodName := ⟨RX12, "pull", "(II)I"⟩
abbrev cX12_both : ByteArray := prog_14_method_28_code
def yX12_both : MethodName := ⟨RX12, "both", "(IIII)I"⟩
abbrev cX12_would : ByteArray := prog_14_method_29_code
def yX12_would : MethodName := ⟨RX12, "would", "(II)I"⟩
abbrev cX12_open : ByteArray := prog_14_method_30_code
def yX12_open : MethodName := ⟨RX12, "open", "()I"⟩
abbrev cX12_moves : ByteArray := prog_14_method_31_code
def yX12_moves : MethodName := ⟨RX12, "moves", "(III)I"⟩
abbrev cX12_undo : ByteArray := prog_14_method_32_code
def yX12_undo : MethodName := ⟨RX12, "undo", "()I"⟩
abbrev cX12_errands : ByteArray := prog_14_method_33_code
def yX12_errands : MethodName := ⟨RX12, "errands", "()I"⟩
abbrev cX12_errand : ByteArray := prog_14_method_34_code
def yX12_errand : MethodName := ⟨RX12, "errand", "(II)I"⟩
abbrev cX12_drop : ByteArray := prog_14_method_35_code
def yX12_drop : MethodName := ⟨RX12, "drop", "()I"⟩
abbrev cX12_doErrand : ByteArray := prog_14_method_36_code
def yX12_doErrand : MethodName := ⟨RX12, "doErrand", "(II)I"⟩
abbrev cX12_layOrder : ByteArray := prog_14_method_37_code
def yX12_layOrder : MethodName := ⟨RX12, "layOrder", "(I)Z"⟩
abbrev cX12_harmOfRow : ByteArray := prog_14_method_38_code
def yX12_harmOfRow : MethodName := ⟨RX12, "harmOfRow", "()I"⟩
abbrev cX12_order : ByteArray := prog_14_method_39_code
def yX12_order : MethodName := ⟨RX12, "order", "(I)I"⟩
abbrev cX12_findFar : ByteArray := prog_14_method_40_code
def yX12_findFar : MethodName := ⟨RX12, "findFar", "(I)V"⟩
abbrev cX12_isSet : ByteArray := prog_14_method_41_code
def yX12_isSet : MethodName := ⟨RX12, "isSet", "(I)Z"⟩
abbrev cX12_code : ByteArray := prog_14_method_42_code
def yX12_code : MethodName := ⟨RX12, "code", "(II)I"⟩
abbrev cX12_who : ByteArray := prog_14_method_43_code
def yX12_who : MethodName := ⟨RX12, "who", "(II)I"⟩
abbrev cX12_heard : ByteArray := prog_14_method_44_code
def yX12_heard : MethodName := ⟨RX12, "heard", "(I)I"⟩
abbrev cX12_cuts : ByteArray := prog_14_method_45_code
def yX12_cuts : MethodName := ⟨RX12, "cuts", "(I)I"⟩
abbrev cX12_rules : ByteArray := prog_14_method_46_code
def yX12_rules : MethodName := ⟨RX12, "rules", "()I"⟩
abbrev cX12_rule : ByteArray := prog_14_method_47_code
def yX12_rule : MethodName := ⟨RX12, "rule", "(III)I"⟩
abbrev cX12_layRule : ByteArray := prog_14_method_48_code
def yX12_layRule : MethodName := ⟨RX12, "layRule", "([IIII)V"⟩
abbrev cX12_free : ByteArray := prog_14_method_49_code
def yX12_free : MethodName := ⟨RX12, "free", "()I"⟩
abbrev cX12_isSo : ByteArray := prog_14_method_50_code
def yX12_isSo : MethodName := ⟨RX12, "isSo", "(I)Z"⟩
abbrev cX12_findSlacks : ByteArray := prog_14_method_51_code
def yX12_findSlacks : MethodName := ⟨RX12, "findSlacks", "(I)Z"⟩
abbrev cX12_slack : ByteArray := prog_14_method_52_code
def yX12_slack : MethodName := ⟨RX12, "slack", "(I)I"⟩
abbrev cX12_giveUp : ByteArray := prog_14_method_53_code
def yX12_giveUp : MethodName := ⟨RX12, "giveUp", "()I"⟩
abbrev cX12_harmBy : ByteArray := prog_14_method_54_code
def yX12_harmBy : MethodName := ⟨RX12, "harmBy", "(I)I"⟩
abbrev cX12_factorial : ByteArray := prog_14_method_55_code
def yX12_factorial : MethodName := ⟨RX12, "factorial", "(I)I"⟩
abbrev cX12_share : ByteArray := prog_14_method_56_code
def yX12_share : MethodName := ⟨RX12, "share", "(I)I"⟩
abbrev cX12_type : ByteArray := prog_14_method_57_code
def yX12_type : MethodName := ⟨RX12, "type", "(JI)I"⟩
abbrev cX12_clear : ByteArray := prog_14_method_58_code
def yX12_clear : MethodName := ⟨RX12, "clear", "()I"⟩
abbrev cX12_isSmall : ByteArray := prog_14_method_59_code
def yX12_isSmall : MethodName := ⟨RX12, "isSmall", "(I)Z"⟩
abbrev cX12_isFigure : ByteArray := prog_14_method_60_code
def yX12_isFigure : MethodName := ⟨RX12, "isFigure", "(I)Z"⟩
abbrev cX12_look : ByteArray := prog_14_method_61_code
def yX12_look : MethodName := ⟨RX12, "look", "(I)V"⟩
abbrev cX12_goOn : ByteArray := prog_14_method_62_code
def yX12_goOn : MethodName := ⟨RX12, "goOn", "()V"⟩
abbrev cX12_isWord : ByteArray := prog_14_method_63_code
def yX12_isWord : MethodName := ⟨RX12, "isWord", "(IIIIII)Z"⟩
abbrev cX12_takes : ByteArray := prog_14_method_64_code
def yX12_takes : MethodName := ⟨RX12, "takes", "(III)Z"⟩
abbrev cX12_readsThing : ByteArray := prog_14_method_65_code
def yX12_readsThing : MethodName := ⟨RX12, "readsThing", "()Z"⟩
abbrev cX12_readsCut : ByteArray := prog_14_method_66_code
def yX12_readsCut : MethodName := ⟨RX12, "readsCut", "()Z"⟩
abbrev cX12_takesPull : ByteArray := prog_14_method_67_code
def yX12_takesPull : MethodName := ⟨RX12, "takesPull", "()Z"⟩
abbrev cX12_readsErrand : ByteArray := prog_14_method_68_code
def yX12_readsErrand : MethodName := ⟨RX12, "readsErrand", "()Z"⟩
abbrev cX12_readsRule : ByteArray := prog_14_method_69_code
def yX12_readsRule : MethodName := ⟨RX12, "readsRule", "()Z"⟩
abbrev cX12_readsItem : ByteArray := prog_14_method_70_code
def yX12_readsItem : MethodName := ⟨RX12, "readsItem", "()Z"⟩
abbrev cX12_read : ByteArray := prog_14_method_71_code
def yX12_read : MethodName := ⟨RX12, "read", "()I"⟩
abbrev cX12_part : ByteArray := prog_14_method_72_code
def yX12_part : MethodName := ⟨RX12, "part", "(I)J"⟩
abbrev cX12_image : ByteArray := prog_14_method_73_code
def yX12_image : MethodName := ⟨RX12, "image", "(I)I"⟩
abbrev cX12_from : ByteArray := prog_14_method_74_code
def yX12_from : MethodName := ⟨RX12, "from", "(I)I"⟩
abbrev cX12_status : ByteArray := prog_14_method_75_code
def yX12_status : MethodName := ⟨RX12, "status", "(I)I"⟩
abbrev cX12_counted : ByteArray := prog_14_method_76_code
def yX12_counted : MethodName := ⟨RX12, "counted", "(I)I"⟩
abbrev cX12_count : ByteArray := prog_14_method_77_code
def yX12_count : MethodName := ⟨RX12, "count", "(I)I"⟩
abbrev cX12_sums : ByteArray := prog_14_method_78_code
def yX12_sums : MethodName := ⟨RX12, "sums", "(JII)J"⟩
abbrev cX12_digest : ByteArray := prog_14_method_79_code
def yX12_digest : MethodName := ⟨RX12, "digest", "()J"⟩
def RJ6 : String := "java/lang/Integer"
def TJ6 : u_T := fun k => match k with
  | _ => ("", "", "", false)
def tyJ6 : Nat → FieldType := fun k => match k with
  | _ => .int
abbrev wsJ60 : List Cond := u_ws RJ6 TJ6 0
theorem nmJ6 : ∀ a, a < 0 → ∀ b, b < 0 → a ≠ b → (TJ6 a).2.1 ≠ (TJ6 b).2.1 := by decide +kernel
theorem tyJ6_ok : ∀ k, k < 0 → parseFieldDescriptor (TJ6 k).2.2.1 = some (tyJ6 k) := by decide +kernel
abbrev cJ6_bitCount_0f7a4 : ByteArray := prog_15_method_49_code
def yJ6_bitCount_0f7a4 : MethodName := ⟨RJ6, "bitCount", "(I)I"⟩
def RJ9 : String := "java/lang/Math"
def TJ9 : u_T := fun k => match k with
  | _ => ("", "", "", false)
def tyJ9 : Nat → FieldType := fun k => match k with
  | _ => .int
abbrev wsJ90 : List Cond := u_ws RJ9 TJ9 0
theorem nmJ9 : ∀ a, a < 0 → ∀ b, b < 0 → a ≠ b → (TJ9 a).2.1 ≠ (TJ9 b).2.1 := by decide +kernel
theorem tyJ9_ok : ∀ k, k < 0 → parseFieldDescriptor (TJ9 k).2.2.1 = some (tyJ9 k) := by decide +kernel
abbrev cJ9_abs_0f7a4 : ByteArray := prog_16_method_59_code
def yJ9_abs_0f7a4 : MethodName := ⟨RJ9, "abs", "(I)I"⟩
abbrev cJ9_max_7cf53 : ByteArray := prog_16_method_65_code
def yJ9_max_7cf53 : MethodName := ⟨RJ9, "max", "(II)I"⟩
abbrev cJ9_min_7cf53 : ByteArray := prog_16_method_69_code
def yJ9_min_7cf53 : MethodName := ⟨RJ9, "min", "(II)I"⟩
def RJ0 : String := "java/lang/String"
def TJ0 : u_T := fun k => match k with
  | _ => ("", "", "", false)
def tyJ0 : Nat → FieldType := fun k => match k with
  | _ => .int
abbrev wsJ00 : List Cond := u_ws RJ0 TJ0 0
theorem nmJ0 : ∀ a, a < 0 → ∀ b, b < 0 → a ≠ b → (TJ0 a).2.1 ≠ (TJ0 b).2.1 := by decide +kernel
theorem tyJ0_ok : ∀ k, k < 0 → parseFieldDescriptor (TJ0 k).2.2.1 = some (tyJ0 k) := by decide +kernel
abbrev cJ0_length_8abf5 : ByteArray := prog_17_method_54_code
def yJ0_length_8abf5 : MethodName := ⟨RJ0, "length", "()I"⟩
abbrev cJ0_charAt_5068e : ByteArray := prog_17_method_56_code
def yJ0_charAt_5068e : MethodName := ⟨RJ0, "charAt", "(I)C"⟩
abbrev cJ0_coder_7d493 : ByteArray := prog_17_method_152_code
def yJ0_coder_7d493 : MethodName := ⟨RJ0, "coder", "()B"⟩
abbrev cJ0_isLatin1_aae02 : ByteArray := prog_17_method_154_code
def yJ0_isLatin1_aae02 : MethodName := ⟨RJ0, "isLatin1", "()Z"⟩
abbrev cJ0_checkIndex_df160 : ByteArray := prog_17_method_155_code
def yJ0_checkIndex_df160 : MethodName := ⟨RJ0, "checkIndex", "(II)V"⟩
def RJ1 : String := "java/lang/StringLatin1"
def TJ1 : u_T := fun k => match k with
  | _ => ("", "", "", false)
def tyJ1 : Nat → FieldType := fun k => match k with
  | _ => .int
abbrev wsJ10 : List Cond := u_ws RJ1 TJ1 0
theorem nmJ1 : ∀ a, a < 0 → ∀ b, b < 0 → a ≠ b → (TJ1 a).2.1 ≠ (TJ1 b).2.1 := by decide +kernel
theorem tyJ1_ok : ∀ k, k < 0 → parseFieldDescriptor (TJ1 k).2.2.1 = some (tyJ1 k) := by decide +kernel
abbrev cJ1_charAt_3b067 : ByteArray := prog_18_method_2_code
def yJ1_charAt_3b067 : MethodName := ⟨RJ1, "charAt", "([BI)C"⟩
def RJ2 : String := "java/lang/StringUTF16"
def TJ2 : u_T := fun k => match k with
  | _ => ("", "", "", false)
def tyJ2 : Nat → FieldType := fun k => match k with
  | _ => .int
abbrev wsJ20 : List Cond := u_ws RJ2 TJ2 0
theorem nmJ2 : ∀ a, a < 0 → ∀ b, b < 0 → a ≠ b → (TJ2 a).2.1 ≠ (TJ2 b).2.1 := by decide +kernel
theorem tyJ2_ok : ∀ k, k < 0 → parseFieldDescriptor (TJ2 k).2.2.1 = some (tyJ2 k) := by decide +kernel
abbrev cJ2_getChar_3b067 : ByteArray := prog_19_method_5_code
def yJ2_getChar_3b067 : MethodName := ⟨RJ2, "getChar", "([BI)C"⟩
abbrev cJ2_length_9d52b : ByteArray := prog_19_method_6_code
def yJ2_length_9d52b : MethodName := ⟨RJ2, "length", "([B)I"⟩
abbrev cJ2_charAt_3b067 : ByteArray := prog_19_method_83_code
def yJ2_charAt_3b067 : MethodName := ⟨RJ2, "charAt", "([BI)C"⟩
abbrev cJ2_checkIndex_2214a : ByteArray := prog_19_method_91_code
def yJ2_checkIndex_2214a : MethodName := ⟨RJ2, "checkIndex", "(I[B)V"⟩
def RJ10 : String := "java/lang/System"
def TJ10 : u_T := fun k => match k with
  | _ => ("", "", "", false)
def tyJ10 : Nat → FieldType := fun k => match k with
  | _ => .int
abbrev wsJ100 : List Cond := u_ws RJ10 TJ10 0
theorem nmJ10 : ∀ a, a < 0 → ∀ b, b < 0 → a ≠ b → (TJ10 a).2.1 ≠ (TJ10 b).2.1 := by decide +kernel
theorem tyJ10_ok : ∀ k, k < 0 → parseFieldDescriptor (TJ10 k).2.2.1 = some (tyJ10 k) := by decide +kernel
def RJ3 : String := "jdk/internal/util/Preconditions"
def TJ3 : u_T := fun k => match k with
  | _ => ("", "", "", false)
def tyJ3 : Nat → FieldType := fun k => match k with
  | _ => .int
abbrev wsJ30 : List Cond := u_ws RJ3 TJ3 0
theorem nmJ3 : ∀ a, a < 0 → ∀ b, b < 0 → a ≠ b → (TJ3 a).2.1 ≠ (TJ3 b).2.1 := by decide +kernel
theorem tyJ3_ok : ∀ k, k < 0 → parseFieldDescriptor (TJ3 k).2.2.1 = some (tyJ3 k) := by decide +kernel
abbrev cJ3_checkIndex_8e157 : ByteArray := prog_21_method_11_code
def yJ3_checkIndex_8e157 : MethodName := ⟨RJ3, "checkIndex", "(IILjava/util/function/BiFunction;)I"⟩
def RL : String := "OneBellLaw"
abbrev cL_law : ByteArray := code
def yL_law : MethodName := ⟨RL, "law", "([I)Z"⟩
abbrev vwCl : List vw_C := [(RX0, TX0, 16), (RX1, TX1, 0), (RX2, TX2, 5), (RX3, TX3, 0), (RX4, TX4, 0), (RX5, TX5, 9), (RX6, TX6, 9), (RX7, TX7, 0), (RX8, TX8, 8), (RX9, TX9, 17), (RX10, TX10, 0), (RX11, TX11, 13), (RX12, TX12, 24)]
end
section
/-! a world by units: lists of cells, flattened; calls replace units and keep the rest -/
abbrev US : Type := (Nat → Int32) × (Nat → Int64) × (Nat → Nat → Int32)
def upi (v : US) (k : Nat) (x : Int32) : US := (fun j => if j = k then x else v.1 j, v.2.1, v.2.2)
def upl (v : US) (k : Nat) (x : Int64) : US := (v.1, fun j => if j = k then x else v.2.1 j, v.2.2)
def upr (v : US) (k : Nat) (f : Nat → Int32) : US := (v.1, v.2.1, fun j => if j = k then f else v.2.2 j)
def upa (v : US) (k i : Nat) (x : Int32) : US := upr v k (upd (v.2.2 k) i x)
def b2i (b : Bool) : Int32 := if b then 1 else 0
theorem ck_some {α : Type} {i : Int32} {n : Nat} {k : Option α} {b : α} (h : (if i < 0 ∨ n ≤ i.toNatClampNeg then none else k) = some b) : vp_in i n ∧ k = some b := by
  by_cases hc : i < 0 ∨ n ≤ i.toNatClampNeg
  · rw [if_pos hc] at h; cases h
  · rw [if_neg hc] at h; exact ⟨hc, h⟩
theorem nz_some {α : Type} {i : Int32} {k : Option α} {b : α} (h : (if i = 0 then none else k) = some b) : ¬ i = 0 ∧ k = some b := by
  by_cases hc : i = 0
  · rw [if_pos hc] at h; cases h
  · rw [if_neg hc] at h; exact ⟨hc, h⟩
theorem nzl_some {α : Type} {i : Int64} {k : Option α} {b : α} (h : (if i = 0 then none else k) = some b) : ¬ i = 0 ∧ k = some b := by
  by_cases hc : i = 0
  · rw [if_pos hc] at h; cases h
  · rw [if_neg hc] at h; exact ⟨hc, h⟩
theorem bd_some {α β : Type} {x : Option α} {f : α → Option β} {b : β} (h : x.bind f = some b) : ∃ a, x = some a ∧ f a = some b := by
  cases x with
  | none => cases h
  | some a => exact ⟨a, rfl, h⟩
theorem it_t {α : Type} {c : Prop} [Decidable c] {x y r : α} (hc : c) (h : (if c then x else y) = r) : x = r := by rw [if_pos hc] at h; exact h
theorem it_f {α : Type} {c : Prop} [Decidable c] {x y r : α} (hc : ¬ c) (h : (if c then x else y) = r) : y = r := by rw [if_neg hc] at h; exact h
def rpU : List va_W → List Nat → List va_W → List va_W
  | us, i :: is, u :: uc => rpU (us.set i u) is uc
  | us, _, _ => us
theorem rpU_get : ∀ (is : List Nat) (uc us : List va_W), is.length = uc.length → ∀ (j : Nat) (u : va_W), (rpU us is uc)[j]? = some u → (∃ k : Nat, is[k]? = some j ∧ uc[k]? = some u) ∨ (j ∉ is ∧ us[j]? = some u)
  | [], uc, us, _, j, u, h => Or.inr ⟨List.not_mem_nil, by cases uc <;> exact h⟩
  | i :: is, [], us, hl, j, u, h => by cases hl
  | i :: is, u0 :: uc, us, hl, j, u, h => by
    rcases rpU_get is uc (us.set i u0) (Nat.succ.inj hl) j u h with ⟨k, h1, h2⟩ | ⟨h1, h2⟩
    · exact Or.inl ⟨k + 1, h1, h2⟩
    · by_cases hj : i = j
      · subst hj
        have hlt : i < us.length := by
          have := (List.getElem?_eq_some_iff.mp h2).1
          rwa [List.length_set] at this
        rw [List.getElem?_set_self hlt] at h2
        cases h2
        exact Or.inl ⟨0, rfl, rfl⟩
      · rw [List.getElem?_set_ne hj] at h2
        exact Or.inr ⟨fun hm => (List.mem_cons.mp hm).elim (fun e => hj e.symm) h1, h2⟩
theorem rpU_fst : ∀ (is : List Nat) (uc uc' us : List va_W), is.map (fun i => us[i]?) = uc.map some → va_nd is = true → uc'.map (List.map Prod.fst) = uc.map (List.map Prod.fst) → (rpU us is uc').map (List.map Prod.fst) = us.map (List.map Prod.fst)
  | [], uc, uc', us, _, _, _ => by cases uc' <;> rfl
  | i :: is, uc, [], us, _, _, _ => rfl
  | i :: is, [], u' :: uc', us, h, _, _ => by cases h
  | i :: is, u0 :: uc, u' :: uc', us, h, hn, hm => by
    have h0 : us[i]? = some u0 := (List.cons.inj h).1
    have hr := (List.cons.inj h).2
    have hm0 : u'.map Prod.fst = u0.map Prod.fst := (List.cons.inj hm).1
    simp only [va_nd, Bool.and_eq_true, decide_eq_true_eq] at hn
    have hset : (us.set i u').map (List.map Prod.fst) = us.map (List.map Prod.fst) := by
      rw [List.map_set, hm0]
      apply List.ext_getElem?
      intro j
      by_cases hj : i = j
      · subst hj
        have hlt : i < us.length := (List.getElem?_eq_some_iff.mp h0).1
        rw [List.getElem?_set_self (by rw [List.length_map]; exact hlt), List.getElem?_map, h0]
        rfl
      · rw [List.getElem?_set_ne hj]
    rw [show rpU us (i :: is) (u' :: uc') = rpU (us.set i u') is uc' from rfl, rpU_fst is uc uc' (us.set i u') ?_ hn.2 (List.cons.inj hm).2, hset]
    rw [← hr]
    apply List.map_congr_left
    intro j hj
    rw [List.getElem?_set_ne (fun e => hn.1 (by rw [e]; exact hj))]
theorem va_D_fst {A : Nat → Prop} {ws ws' : va_W} (h : ws'.map Prod.fst = ws.map Prod.fst) (hD : va_D A ws) : va_D A ws' := by
  have key : ∀ (k : Nat) (q : Nat × va_E), ws'[k]? = some q → ∃ q0, ws[k]? = some q0 ∧ q0.1 = q.1 := by
    intro k q hk
    have h1 : (ws'.map Prod.fst)[k]? = some q.1 := by rw [List.getElem?_map, hk]; rfl
    rw [h, List.getElem?_map] at h1
    cases h2 : ws[k]? with
    | none => rw [h2] at h1; cases h1
    | some q0 => rw [h2] at h1; exact ⟨q0, rfl, Option.some.inj h1⟩
  refine ⟨fun i j x y hi hj hxy => ?_, fun k q hk => ?_⟩
  · obtain ⟨x0, h1, h2⟩ := key i x hi
    obtain ⟨y0, h3, h4⟩ := key j y hj
    exact hD.1 i j x0 y0 h1 h3 (h2.trans (hxy.trans h4.symm))
  · obtain ⟨q0, h1, h2⟩ := key k q hk
    rw [← h2]
    exact hD.2 k q0 h1
theorem fl_fst {us us' : List va_W} (h : us'.map (List.map Prod.fst) = us.map (List.map Prod.fst)) : us'.flatten.map Prod.fst = us.flatten.map Prod.fst := by
  rw [List.map_flatten, List.map_flatten, h]
theorem va_D_pw {A : Nat → Prop} {ws : va_W} (hD : va_D A ws) : ws.Pairwise (fun p q => p.1 ≠ q.1) := by
  rw [List.pairwise_iff_getElem]
  intro i j hi hj hij he
  have := hD.1 i j _ _ (List.getElem?_eq_getElem hi) (List.getElem?_eq_getElem hj) he
  omega
theorem fl_apart {A : Nat → Prop} {us : List va_W} (hD : va_D A us.flatten) {i j : Nat} {u v : va_W} (hi : us[i]? = some u) (hj : us[j]? = some v) (hne : i ≠ j) {p q : Nat × va_E} (hp : p ∈ u) (hq : q ∈ v) : p.1 ≠ q.1 := by
  have h := (List.pairwise_flatten.mp (va_D_pw hD)).2
  rw [List.pairwise_iff_getElem] at h
  obtain ⟨li, ei⟩ := List.getElem?_eq_some_iff.mp hi
  obtain ⟨lj, ej⟩ := List.getElem?_eq_some_iff.mp hj
  rcases Nat.lt_or_gt_of_ne hne with hlt | hlt
  · exact h i j li lj hlt p (by rw [ei]; exact hp) q (by rw [ej]; exact hq)
  · exact fun e => h j i lj li hlt q (by rw [ej]; exact hq) p (by rw [ei]; exact hp) e.symm
theorem va_P.mem {D : va_G} {cl : List vw_C} {ws : va_W} {H : Heap} (h : va_P D cl ws H) {q : Nat × va_E} (hq : q ∈ ws) : va_at D cl q H := by
  obtain ⟨i, hi⟩ := List.getElem?_of_mem hq
  exact h i q hi
theorem va_P.ofMem {D : va_G} {cl : List vw_C} {ws : va_W} {H : Heap} (h : ∀ q ∈ ws, va_at D cl q H) : va_P D cl ws H := fun _ q hk => h q (List.mem_of_getElem? hk)
theorem us_mem {us : List va_W} {i : Nat} {u : va_W} {q : Nat × va_E} (hi : us[i]? = some u) (hq : q ∈ u) : q ∈ us.flatten := List.mem_flatten.mpr ⟨u, List.mem_of_getElem? hi, hq⟩
theorem at_is {us uc : List va_W} {is : List Nat} (hC : is.map (fun i => us[i]?) = uc.map some) {k : Nat} {u : va_W} (hk : uc[k]? = some u) : ∃ i : Nat, is[k]? = some i ∧ us[i]? = some u := by
  have h1 : (is.map (fun i => us[i]?))[k]? = some (some u) := by rw [hC, List.getElem?_map, hk]; rfl
  rw [List.getElem?_map] at h1
  cases hi : is[k]? with
  | none => rw [hi] at h1; cases h1
  | some i => rw [hi] at h1; exact ⟨i, rfl, Option.some.inj h1⟩
theorem sub_mem {us uc : List va_W} {is : List Nat} (hC : is.map (fun i => us[i]?) = uc.map some) {q : Nat × va_E} (hq : q ∈ uc.flatten) : q ∈ us.flatten := by
  obtain ⟨u, hu, hqu⟩ := List.mem_flatten.mp hq
  obtain ⟨k, hk⟩ := List.getElem?_of_mem hu
  obtain ⟨i, -, hi⟩ := at_is hC hk
  exact us_mem hi hqu
theorem va_P.us {D : va_G} {cl : List vw_C} {us uc : List va_W} {is : List Nat} {H : Heap} (h : va_P D cl us.flatten H) (hC : is.map (fun i => us[i]?) = uc.map some) : va_P D cl uc.flatten H := va_P.ofMem fun _ hq => h.mem (sub_mem hC hq)
theorem va_nd_get : ∀ (l : List Nat), va_nd l = true → ∀ {i j a : Nat}, l[i]? = some a → l[j]? = some a → i = j := fun l h i j a h1 h2 => va_nd_inj l h i j a h1 h2
theorem va_D.us {A : Nat → Prop} {us uc : List va_W} {is : List Nat} (hD : va_D A us.flatten) (hn : va_nd is = true) (hC : is.map (fun i => us[i]?) = uc.map some) : va_D A uc.flatten := by
  have hpw := va_D_pw hD
  have hin := List.pairwise_flatten.mp hpw
  have h : uc.flatten.Pairwise (fun p q => p.1 ≠ q.1) := by
    rw [List.pairwise_flatten]
    refine ⟨fun u hu => ?_, ?_⟩
    · obtain ⟨k, hk⟩ := List.getElem?_of_mem hu
      obtain ⟨i, -, hi⟩ := at_is hC hk
      exact hin.1 u (List.mem_of_getElem? hi)
    · rw [List.pairwise_iff_getElem]
      intro a b ha hb hab p hp q hq
      obtain ⟨i, h1, hi⟩ := at_is hC (List.getElem?_eq_getElem ha)
      obtain ⟨j, h2, hj⟩ := at_is hC (List.getElem?_eq_getElem hb)
      have hij : i ≠ j := by
        intro e
        subst e
        have := va_nd_get is hn h1 h2
        omega
      exact fl_apart hD hi hj hij hp hq
  refine ⟨fun i j x y hi hj hxy => ?_, fun k q hk => ?_⟩
  · rw [List.pairwise_iff_getElem] at h
    obtain ⟨li, ei⟩ := List.getElem?_eq_some_iff.mp hi
    obtain ⟨lj, ej⟩ := List.getElem?_eq_some_iff.mp hj
    rcases Nat.lt_trichotomy i j with hlt | he | hlt
    · exact absurd (by rw [ei, ej]; exact hxy) (h i j li lj hlt)
    · exact he
    · exact absurd (by rw [ei, ej]; exact hxy.symm) (h j i lj li hlt)
  · obtain ⟨k2, hk2⟩ := List.getElem?_of_mem (sub_mem hC (List.mem_of_getElem? hk))
    exact hD.2 k2 q hk2
/-- the frame rule by units: the callee's units are replaced, all others stay -/
theorem us_join {A : Nat → Prop} {D : va_G} {cl : List vw_C} {us uc uc' : List va_W} {is : List Nat} {H H1 : Heap} (hP : va_P D cl us.flatten H) (hD : va_D A us.flatten) (hn : va_nd is = true) (hC : is.map (fun i => us[i]?) = uc.map some) (hm : uc'.map (List.map Prod.fst) = uc.map (List.map Prod.fst))
    (hk : ∀ q : Nat, q < H.size → ¬ va_A uc.flatten H.size q → H1[q]? = H[q]?) (hP1 : va_P D cl uc'.flatten H1) : va_P D cl (rpU us is uc').flatten H1 ∧ va_D A (rpU us is uc').flatten := by
  have hl : is.length = uc'.length := by
    have h1 := congrArg List.length hC
    have h2 := congrArg List.length hm
    simp only [List.length_map] at h1 h2
    omega
  refine ⟨va_P.ofMem fun q hq => ?_, va_D_fst (fl_fst (rpU_fst is uc uc' us hC hn hm)) hD⟩
  obtain ⟨u, hu, hqu⟩ := List.mem_flatten.mp hq
  obtain ⟨j, hj⟩ := List.getElem?_of_mem hu
  rcases rpU_get is uc' us hl j u hj with ⟨k, h1, h2⟩ | ⟨h1, h2⟩
  · exact hP1.mem (us_mem h2 hqu)
  · have h0 := hP.mem (us_mem h2 hqu)
    refine h0.kept (hk q.1 h0.lt ?_)
    rintro (⟨k, e, hke⟩ | hge)
    · obtain ⟨u2, hu2, hq2⟩ := List.mem_flatten.mp (List.mem_of_getElem? hke)
      obtain ⟨k2, hk2⟩ := List.getElem?_of_mem hu2
      obtain ⟨i, h3, h4⟩ := at_is hC hk2
      exact fl_apart hD h2 h4 (fun e => h1 (by rw [e]; exact List.mem_of_getElem? h3)) hqu hq2 rfl
    · have := h0.lt
      omega
theorem us_free {A0 : Nat → Prop} {us uc : List va_W} {is : List Nat} {H0 H : Heap} {locs : List Loc} (hD : va_D A0 us.flatten) (hS : va_S A0 H0 H locs) (hA : ∀ q, H0.size ≤ q → A0 q) (hC : is.map (fun i => us[i]?) = uc.map some) : ∀ q, va_A uc.flatten H.size q → A0 q := by
  rintro q (⟨k, e, hke⟩ | hge)
  · obtain ⟨k2, hk2⟩ := List.getElem?_of_mem (sub_mem hC (List.mem_of_getElem? hke))
    exact hD.2 k2 _ hk2
  · exact hA q (Nat.le_trans hS.1 hge)
/-- a cell of a unit is a cell of the flat world, and may be set there -/
theorem fl_at : ∀ (us : List va_W) (i j : Nat) (u : va_W) (q : Nat × va_E), us[i]? = some u → u[j]? = some q → ∃ k : Nat, us.flatten[k]? = some q ∧ ∀ q', us.flatten.set k q' = (us.set i (u.set j q')).flatten
  | [], i, j, u, q, h, _ => by simp at h
  | v :: us, 0, j, u, q, h, h2 => by
    rw [List.getElem?_cons_zero] at h
    cases h
    have hl := (List.getElem?_eq_some_iff.mp h2).1
    refine ⟨j, ?_, fun q' => ?_⟩
    · rw [List.flatten_cons, List.getElem?_append_left hl]; exact h2
    · rw [List.flatten_cons, List.set_append_left _ _ hl]; rfl
  | v :: us, i + 1, j, u, q, h, h2 => by
    rw [List.getElem?_cons_succ] at h
    obtain ⟨k, h3, h4⟩ := fl_at us i j u q h h2
    refine ⟨v.length + k, ?_, fun q' => ?_⟩
    · rw [List.flatten_cons, List.getElem?_append_right (by omega), Nat.add_sub_cancel_left]; exact h3
    · rw [List.flatten_cons, List.set_append_right _ _ (by omega), Nat.add_sub_cancel_left, h4 q']; rfl
end
section
/-! the tables' good words; what holds all along (classes, nest links, string constants, statics); a method's context, its world, its contract -/
def gt : List Cond := lw_tbl.filter goodWord
theorem gt_of {w : Cond} (i : Nat) (h : tables_1[i]? = some w) (hg : goodWord w = true) : w ∈ gt := List.mem_filter.mpr ⟨List.mem_append_right _ (List.mem_of_getElem? h), hg⟩
theorem gt_sel {w : Cond} (i : Nat) (h : (k2_sels lw_privs)[i]? = some w) (hg : goodWord w = true) : w ∈ gt := List.mem_filter.mpr ⟨List.mem_append_left _ (List.mem_of_getElem? h), hg⟩
theorem gt_good {w : Cond} (h : w ∈ gt) : w ∈ gt ∧ ((w.onTables && w.keeps) = true ∨ ∃ ty, w = .arrayClass ty) := ⟨h, good_of_word (List.mem_filter.mp h).2⟩
theorem goodIn_gt {w : Cond} (h : w ∈ gt) : GoodIn gt (w :: gt) := fun z hz => gt_good ((List.mem_cons.mp hz).elim (fun e => e ▸ h) id)
theorem goodIn_gtA {pre : List Cond} {w : Cond} (hp : ∀ z ∈ pre, z ∈ gt) (h : w ∈ gt) : GoodIn gt (pre ++ (w :: gt)) := fun z hz => (List.mem_append.mp hz).elim (fun a => gt_good (hp z a)) (fun b => goodIn_gt h z b)
abbrev GG : Type := va_G × (Nat → ClassId) × (Nat → Nat)
def tys3 (K : Nat → ClassId) : List (ClassId × FieldType) := [(K 0, .int), (K 1, .boolean), (K 2, .object "OneBell$Village")]
def strIx : List Nat := [63, 72, 77, 82, 87]
def strTx : List String := ["thing", "cut", "damp", "errand", "rule"]
def strLen : List Nat := [5, 3, 4, 6, 4]
def strByt : List (List Int32) := [[116, 104, 105, 110, 103], [99, 117, 116], [100, 97, 109, 112], [101, 114, 114, 97, 110, 100], [114, 117, 108, 101]]
def facL : List Int32 := [1, 1, 2, 6, 24, 120]
def nestL : List (String × Nat × MethodName × String) := [("OneBell", 11, { cls := "OneBell$Village", name := "<init>", desc := "()V" }, "OneBell"), ("OneBell", 46, { cls := "OneBell$Kinds", name := "<init>", desc := "()V" }, "OneBell"), ("OneBell$Kinds", 9, { cls := "OneBell$Door", name := "<init>", desc := "()V" }, "OneBell"), ("OneBell$Kinds", 18, { cls := "OneBell$Latch", name := "<init>", desc := "()V" }, "OneBell"), ("OneBell$Latch", 1, { cls := "OneBell$Door", name := "<init>", desc := "()V" }, "OneBell"), ("OneBell$Kinds", 25, { cls := "OneBell$Lid", name := "<init>", desc := "()V" }, "OneBell"), ("OneBell$Lid", 1, { cls := "OneBell$Door", name := "<init>", desc := "()V" }, "OneBell"), ("OneBell$Kinds", 32, { cls := "OneBell$Wheel", name := "<init>", desc := "()V" }, "OneBell"), ("OneBell$Wheel", 1, { cls := "OneBell$Latch", name := "<init>", desc := "()V" }, "OneBell"), ("OneBell$Kinds", 39, { cls := "OneBell$Sluice", name := "<init>", desc := "()V" }, "OneBell"), ("OneBell$Sluice", 1, { cls := "OneBell$Latch", name := "<init>", desc := "()V" }, "OneBell"), ("OneBell", 74, { cls := "OneBell$Reader", name := "<init>", desc := "()V" }, "OneBell"), ("OneBell$Reader", 11, { cls := "OneBell$Village", name := "<init>", desc := "()V" }, "OneBell"), ("OneBell$Village", 70, { cls := "OneBell", name := "within", desc := "(III)Z" }, "OneBell"), ("OneBell$Reader", 126, { cls := "OneBell", name := "within", desc := "(III)Z" }, "OneBell"), ("OneBell$Reader", 106, { cls := "OneBell", name := "has", desc := "(II)Z" }, "OneBell"), ("OneBell$Swing", 69, { cls := "OneBell", name := "has", desc := "(II)Z" }, "OneBell"), ("OneBell$Day", 105, { cls := "OneBell", name := "has", desc := "(II)Z" }, "OneBell"), ("OneBell$Village", 80, { cls := "OneBell", name := "has", desc := "(II)Z" }, "OneBell"), ("OneBell$SlackSearch", 87, { cls := "OneBell", name := "has", desc := "(II)Z" }, "OneBell")]
def EV (G : GG) (U : State) : Prop := va_K G.1 vwCl (tys3 G.2.1) U ∧ (∀ q ∈ nestL, va_Nw (.methodLinkNest q.1 q.2.1 q.2.2.1 q.2.2.2) U) ∧ ∀ i : Nat, i < 5 → vk_R "OneBell$Reader" (strIx.getD i 0) (strTx.getD i "") (G.2.2 (10 + i)) U
def SX (G : GG) (A : Nat → Prop) (U : State) (H : Heap) : Prop := va_Z "OneBell$Day" "FACTORIAL" "[I" (.ref (G.2.2 0)) A U H ∧ va_T .int (G.2.2 0) 6 (fun j => .int (facL.getD j 0)) A U H ∧ vk_S 5 strLen strByt (fun i => G.2.2 (10 + i)) (fun i => G.2.2 (20 + i)) A U H ∧ va_Z "java/lang/String" "COMPACT_STRINGS" "Z" (.int 1) A U H ∧ va_Zq "jdk/internal/util/Preconditions" "SIOOBE_FORMATTER" "Ljava/util/function/BiFunction;" A U H
theorem EV.warm {G : GG} {s U : State} (hW : s.WarmedH U.vm) (h : EV G s) : EV G U := ⟨va_K.moved hW.alike h.1, fun q hq => va_Nw.warmM hW (h.2.1 q hq), fun i hi => (h.2.2 i hi).warm hW⟩
theorem EV.call {G : GG} {U : State} {g : JFrame} {mk : MethodId} {a : Array Value} (h : EV G U) : EV G (U.calling g mk a) := ⟨va_K.moved (u := U) (U := U.calling g mk a) (Vm.Alike.refl U.vm) h.1, fun q hq => va_Nw.same (u := U) (U := U.calling g mk a) rfl rfl (h.2.1 q hq), fun i hi => (h.2.2 i hi).same (U := U.calling g mk a) rfl⟩
theorem SX.call {G : GG} {A : Nat → Prop} {U : State} {H : Heap} {g : JFrame} {mk : MethodId} {a : Array Value} (h : SX G A U H) : SX G A (U.calling g mk a) H := ⟨va_Z.moved (u := U) (U := U.calling g mk a) (Vm.Alike.refl U.vm) h.1, va_T.moved (u := U) (U := U.calling g mk a) (Vm.Alike.refl U.vm) h.2.1, vk_S.moved (u := U) (U := U.calling g mk a) (Vm.Alike.refl U.vm) h.2.2.1, va_Z.moved (u := U) (U := U.calling g mk a) (Vm.Alike.refl U.vm) h.2.2.2.1, va_Zq.moved (u := U) (U := U.calling g mk a) (Vm.Alike.refl U.vm) h.2.2.2.2⟩
theorem SX.to {G : GG} {A B : Nat → Prop} {s U : State} {H : Heap} {locs : List Loc} (h : SX G A s s.heap) (hS : va_S A s.heap H locs) (hB : ∀ q, B q → A q) (hv : s.vm.Alike U.vm) : SX G B U H :=
  ⟨va_Z.moved hv ((h.1.kept hS.2.1).narrow hB), va_T.moved hv ((h.2.1.kept hS.2.1).narrow hB), vk_S.moved hv ((h.2.2.1.kept hS.2.1).narrow hB), va_Z.moved hv ((h.2.2.2.1.kept hS.2.1).narrow hB), va_Zq.moved hv ((h.2.2.2.2.kept hS.2.1).narrow hB)⟩
def CP (G : GG) (us : List va_W) (sz : Nat) (U : State) : Prop := U.heap.size = sz ∧ va_P G.1 vwCl us.flatten U.heap ∧ EV G U ∧ SX G (va_A us.flatten sz) U U.heap ∧ va_D (fun _ => True) us.flatten
theorem CP.blind {G : GG} {us : List va_W} {sz : Nat} {av : List Value} : FrameBlind (va_Pc av (CP G us sz)) := fun _ _ _ _ q => ⟨q.1, q.2.1, q.2.2.1, q.2.2.2.1.call, q.2.2.2.2.1.call, q.2.2.2.2.2⟩
/-- a method's context -/
def MC (own : String) (cc : ByteArray) (nL : Nat) (rt : Option FieldType) (G : GG) (A : Nat → Prop) (p : Program) (s : State) (m : MethodId) (args : Array Value) (meth : Method) (c : Code) : Prop :=
  p.tables.exec = Jvm.exec ∧ c.code = cc ∧ meth.sig.returnType = rt ∧ c.maxLocals = nL ∧ s.vm.findClass own = some m.cls ∧ (∀ w ∈ gt, w.before args s = true) ∧ EV G s ∧ SX G A s s.heap ∧ (∀ q, s.heap.size ≤ q → A q) ∧ meth.locks = false
section KMC
variable {own : String} {cc : ByteArray} {nL : Nat} {rt : Option FieldType} {G : GG} {A : Nat → Prop} {p : Program} {s : State} {m : MethodId} {args : Array Value} {meth : Method} {c : Code}
theorem MC.hx (C : MC own cc nL rt G A p s m args meth c) : p.tables.exec = Jvm.exec := C.1
theorem MC.hb (C : MC own cc nL rt G A p s m args meth c) : c.code = cc := C.2.1
theorem MC.hr (C : MC own cc nL rt G A p s m args meth c) : meth.sig.returnType = rt := C.2.2.1
theorem MC.hml (C : MC own cc nL rt G A p s m args meth c) : c.maxLocals = nL := C.2.2.2.1
theorem MC.hown (C : MC own cc nL rt G A p s m args meth c) : s.vm.findClass own = some m.cls := C.2.2.2.2.1
theorem MC.hts (C : MC own cc nL rt G A p s m args meth c) : ∀ w ∈ gt, w.before args s = true := C.2.2.2.2.2.1
theorem MC.ev (C : MC own cc nL rt G A p s m args meth c) : EV G s := C.2.2.2.2.2.2.1
theorem MC.hK (C : MC own cc nL rt G A p s m args meth c) : va_K G.1 vwCl (tys3 G.2.1) s := C.2.2.2.2.2.2.1.1
theorem MC.sx (C : MC own cc nL rt G A p s m args meth c) : SX G A s s.heap := C.2.2.2.2.2.2.2.1
theorem MC.hA (C : MC own cc nL rt G A p s m args meth c) : ∀ q, s.heap.size ≤ q → A q := C.2.2.2.2.2.2.2.2.1
theorem MC.hk (C : MC own cc nL rt G A p s m args meth c) : meth.locks = false := C.2.2.2.2.2.2.2.2.2
theorem MC.fix (C : MC own cc nL rt G A p s m args meth c) : CallFix p m c cc nL s args gt own := ⟨C.hx, C.hb, C.hml, C.hown, C.hts⟩
end KMC
/-- the world of a method at a place in its run -/
def HP (G : GG) (A : Nat → Prop) (s : State) (us : List va_W) (H : Heap) (locs : List Loc) : Prop := va_P G.1 vwCl us.flatten H ∧ va_D A us.flatten ∧ va_S A s.heap H locs
def wdm (y : MethodName) (cc : ByteArray) (maxL : Nat) (ret : Option FieldType) : List Cond := Cond.code y cc maxL ret :: gt
def rmm (d : Nat) : Room := { frames := d, cells := 0, slots := 0, locals := 60 * d }
def fsts (us : List va_W) : List (List Nat) := us.map (List.map Prod.fst)
/-- contracts without new cells: int, long, void, reference -/
def MI (l : Launch) (y : MethodName) (cc : ByteArray) (maxL : Nat) (ret : Option FieldType) (d : Nat) (av : List Value) (G : GG) (us : List va_W) (r : Int32) (us' : List va_W) : Prop :=
  fsts us' = fsts us ∧ ∀ sz, Met l y (wdm y cc maxL ret) (rmm d) (va_Pc av (CP G us sz)) (va_Qi (fun x (_ : Unit) => x = r) (fun _ t => va_P G.1 vwCl us'.flatten t.heap) (va_A us.flatten sz)) 0 0 (va_A us.flatten sz)
def ML (l : Launch) (y : MethodName) (cc : ByteArray) (maxL : Nat) (ret : Option FieldType) (d : Nat) (av : List Value) (G : GG) (us : List va_W) (r : Int64) (us' : List va_W) : Prop :=
  fsts us' = fsts us ∧ ∀ sz, Met l y (wdm y cc maxL ret) (rmm d) (va_Pc av (CP G us sz)) (va_Ql (fun x (_ : Unit) => x = r) (fun _ t => va_P G.1 vwCl us'.flatten t.heap) (va_A us.flatten sz)) 0 0 (va_A us.flatten sz)
def MV (l : Launch) (y : MethodName) (cc : ByteArray) (maxL : Nat) (ret : Option FieldType) (d : Nat) (av : List Value) (G : GG) (us : List va_W) (us' : List va_W) : Prop :=
  fsts us' = fsts us ∧ ∀ sz, Met l y (wdm y cc maxL ret) (rmm d) (va_Pc av (CP G us sz)) (va_Qv (fun (_ : Unit) => True) (fun _ t => va_P G.1 vwCl us'.flatten t.heap) (va_A us.flatten sz)) 0 0 (va_A us.flatten sz)
def MR (l : Launch) (y : MethodName) (cc : ByteArray) (maxL : Nat) (ret : Option FieldType) (d : Nat) (av : List Value) (G : GG) (us : List va_W) (r : Nat) (us' : List va_W) : Prop :=
  fsts us' = fsts us ∧ ∀ sz, Met l y (wdm y cc maxL ret) (rmm d) (va_Pc av (CP G us sz)) (va_Qr (fun (_ : Unit) => True) (fun _ a t => a = r ∧ va_P G.1 vwCl us'.flatten t.heap) (va_A us.flatten sz)) 0 0 (va_A us.flatten sz)
def QI (below : List Frame) (G : GG) (A : Nat → Prop) (args : Array Value) (s : State) (r : Int32) (us' : List va_W) : State → Prop := MQ below (va_Qi (fun x (_ : Unit) => x = r) (fun _ t => va_P G.1 vwCl us'.flatten t.heap) A) args s 0 0 A
def QL (below : List Frame) (G : GG) (A : Nat → Prop) (args : Array Value) (s : State) (r : Int64) (us' : List va_W) : State → Prop := MQ below (va_Ql (fun x (_ : Unit) => x = r) (fun _ t => va_P G.1 vwCl us'.flatten t.heap) A) args s 0 0 A
def QV (below : List Frame) (G : GG) (A : Nat → Prop) (args : Array Value) (s : State) (us' : List va_W) : State → Prop := MQ below (va_Qv (fun (_ : Unit) => True) (fun _ t => va_P G.1 vwCl us'.flatten t.heap) A) args s 0 0 A
def QA (below : List Frame) (G : GG) (A : Nat → Prop) (args : Array Value) (s : State) (r : Nat) (us' : List va_W) : State → Prop := MQ below (va_Qr (fun (_ : Unit) => True) (fun _ a t => a = r ∧ va_P G.1 vwCl us'.flatten t.heap) A) args s 0 0 A
section KINTRO
variable {l : Launch} {y : MethodName} {cc : ByteArray} {maxL : Nat} {ret : Option FieldType} {d : Nat} {av : List Value} {G : GG} {us us' : List va_W}
theorem entry_of {p : Program} {e : Env} {s s₁ : State} {m : MethodId} {args : Array Value} {below : List Frame} {meth : Method} {c : Code} {sz : Nat} (B : BodyLoose p l y (headSpec (wdm y cc maxL ret) (rmm d)) cc maxL ret e s m args below meth c s₁) (hml : c.maxLocals = maxL) (hv : va_Pc av (CP G us sz) args s) :
    args = av.toArray ∧ sz = s.heap.size ∧ MC y.cls cc maxL ret G (va_A us.flatten s.heap.size) p s m args meth c ∧ HP G (va_A us.flatten s.heap.size) s us s.heap [] := by
  obtain ⟨h1, h2, h3, h4, h5, h6⟩ := hv
  subst h2
  have hts := atoms_spec (ws := wdm y cc maxL ret) B.pre
  exact ⟨h1, rfl, ⟨B.exec, B.bytes, B.returns, hml, findClass_of_methodNamed B.named, fun w hw => hts w (List.mem_cons_of_mem _ hw), h4, h5, fun q h => Or.inr h, B.notSynchronized⟩, h3, h6.self, va_S.rf⟩
theorem ls_of (hlen : (lg_sl av).length ≤ maxL) {m : MethodId} {P : JFrame → Prop} (h : ∀ ls : Array Slot, lv_has ls maxL (lv_args 0 av) → P (F0 m 0 ls [])) : P (entryFrame m av.toArray maxL) := by
  have hl := lv_entry av (n := maxL) hlen
  rw [lg_entry_eq]
  exact h _ hl
theorem MI.intro {r : Int32} (hy : plainName y.cls = true) (hm : fsts us' = fsts us) (hlen : (lg_sl av).length ≤ maxL)
    (body : ∀ (p : Program) (e : Env) (s : State) (m : MethodId) (args : Array Value) (below : List Frame) (meth : Method) (c : Code) (A : Nat → Prop) (ls : Array Slot), MC y.cls cc maxL ret G A p s m args meth c → HP G A s us s.heap [] → lv_has ls maxL (lv_args 0 av) → W p l e (rmm d) s m args below meth c s.heap [] 0 0 (QI below G A args s r us') (F0 m 0 ls [])) : MI l y cc maxL ret d av G us r us' := by
  refine ⟨hm, fun sz => Met.ofW (cc := cc) (maxL := maxL) (ret := ret) hy rfl ?_⟩
  intro p e s m args below meth c s₁ B hml hv
  obtain ⟨rfl, rfl, C, h⟩ := entry_of B hml hv
  exact ls_of hlen (P := fun g => W p l e (rmm d) s m av.toArray below meth c s.heap [] 0 0 _ g) fun ls hl => body p e s m _ below meth c _ ls C h hl
theorem ML.intro {r : Int64} (hy : plainName y.cls = true) (hm : fsts us' = fsts us) (hlen : (lg_sl av).length ≤ maxL)
    (body : ∀ (p : Program) (e : Env) (s : State) (m : MethodId) (args : Array Value) (below : List Frame) (meth : Method) (c : Code) (A : Nat → Prop) (ls : Array Slot), MC y.cls cc maxL ret G A p s m args meth c → HP G A s us s.heap [] → lv_has ls maxL (lv_args 0 av) → W p l e (rmm d) s m args below meth c s.heap [] 0 0 (QL below G A args s r us') (F0 m 0 ls [])) : ML l y cc maxL ret d av G us r us' := by
  refine ⟨hm, fun sz => Met.ofW (cc := cc) (maxL := maxL) (ret := ret) hy rfl ?_⟩
  intro p e s m args below meth c s₁ B hml hv
  obtain ⟨rfl, rfl, C, h⟩ := entry_of B hml hv
  exact ls_of hlen (P := fun g => W p l e (rmm d) s m av.toArray below meth c s.heap [] 0 0 _ g) fun ls hl => body p e s m _ below meth c _ ls C h hl
theorem MV.intro (hy : plainName y.cls = true) (hm : fsts us' = fsts us) (hlen : (lg_sl av).length ≤ maxL)
    (body : ∀ (p : Program) (e : Env) (s : State) (m : MethodId) (args : Array Value) (below : List Frame) (meth : Method) (c : Code) (A : Nat → Prop) (ls : Array Slot), MC y.cls cc maxL ret G A p s m args meth c → HP G A s us s.heap [] → lv_has ls maxL (lv_args 0 av) → W p l e (rmm d) s m args below meth c s.heap [] 0 0 (QV below G A args s us') (F0 m 0 ls [])) : MV l y cc maxL ret d av G us us' := by
  refine ⟨hm, fun sz => Met.ofW (cc := cc) (maxL := maxL) (ret := ret) hy rfl ?_⟩
  intro p e s m args below meth c s₁ B hml hv
  obtain ⟨rfl, rfl, C, h⟩ := entry_of B hml hv
  exact ls_of hlen (P := fun g => W p l e (rmm d) s m av.toArray below meth c s.heap [] 0 0 _ g) fun ls hl => body p e s m _ below meth c _ ls C h hl
theorem MR.intro {r : Nat} (hy : plainName y.cls = true) (hm : fsts us' = fsts us) (hlen : (lg_sl av).length ≤ maxL)
    (body : ∀ (p : Program) (e : Env) (s : State) (m : MethodId) (args : Array Value) (below : List Frame) (meth : Method) (c : Code) (A : Nat → Prop) (ls : Array Slot), MC y.cls cc maxL ret G A p s m args meth c → HP G A s us s.heap [] → lv_has ls maxL (lv_args 0 av) → W p l e (rmm d) s m args below meth c s.heap [] 0 0 (QA below G A args s r us') (F0 m 0 ls [])) : MR l y cc maxL ret d av G us r us' := by
  refine ⟨hm, fun sz => Met.ofW (cc := cc) (maxL := maxL) (ret := ret) hy rfl ?_⟩
  intro p e s m args below meth c s₁ B hml hv
  obtain ⟨rfl, rfl, C, h⟩ := entry_of B hml hv
  exact ls_of hlen (P := fun g => W p l e (rmm d) s m av.toArray below meth c s.heap [] 0 0 _ g) fun ls hl => body p e s m _ below meth c _ ls C h hl
end KINTRO
/-- a class's facts, a field's links -/
def FC (ci : Nat) (C : String) (T : u_T) (N : Nat) (ty : Nat → FieldType) : Prop := vwCl[ci]? = some (C, T, N) ∧ (∀ w ∈ u_ws C T N, w ∈ gt) ∧ (∀ k, k < N → parseFieldDescriptor (T k).2.2.1 = some (ty k)) ∧ (∀ a, a < N → ∀ b, b < N → a ≠ b → (T a).2.1 ≠ (T b).2.1)
def FL (own : String) (index ci k : Nat) : Prop := ∃ (C : String) (T : u_T) (N : Nat) (ty : Nat → FieldType), FC ci C T N ty ∧ k < N ∧ Cond.fieldLink own index (T k).1 (T k).2.1 (T k).2.2.1 ∈ gt
def FP (own : String) (index ci k : Nat) (t : FieldType) : Prop := ∃ (C : String) (T : u_T) (N : Nat) (ty : Nat → FieldType), FC ci C T N ty ∧ k < N ∧ Cond.fieldLink own index (T k).1 (T k).2.1 (T k).2.2.1 ∈ gt ∧ (T k).2.2.2 = false ∧ ty k = t
theorem FL.mk {own : String} {index ci k : Nat} {C : String} {T : u_T} {N : Nat} {ty : Nat → FieldType} (h : FC ci C T N ty) (hk : k < N) (hl : Cond.fieldLink own index (T k).1 (T k).2.1 (T k).2.2.1 ∈ gt) : FL own index ci k := ⟨C, T, N, ty, h, hk, hl⟩
theorem FP.mk {own : String} {index ci k : Nat} {C : String} {T : u_T} {N : Nat} {ty : Nat → FieldType} {t : FieldType} (h : FC ci C T N ty) (hk : k < N) (hl : Cond.fieldLink own index (T k).1 (T k).2.1 (T k).2.2.1 ∈ gt) (hf : (T k).2.2.2 = false) (ht : ty k = t) : FP own index ci k t := ⟨C, T, N, ty, h, hk, hl, hf, ht⟩
theorem at_H {D : va_G} {cl : List vw_C} {ws : va_W} {t : State} {H : Heap} (ht : t.heap = H) (h : va_P D cl ws H) : va_P D cl ws t.heap := by rw [ht]; exact h
section KROWS
variable {own : String} {cc : ByteArray} {nL : Nat} {rt : Option FieldType} {G : GG} {A : Nat → Prop} {p : Program} {l : Launch} {e : Env} {R : Room} {s : State} {m : MethodId} {args : Array Value} {below : List Frame} {meth : Method} {c : Code} {H : Heap} {locs : List Loc} {cells slots : Nat} {Q : State → Prop} {pc : Nat} {ls : Array Slot} {rest : List Value} {us us' : List va_W} {u u' : va_W}
theorem g_get (C : MC own cc nL rt G A p s m args meth c) (h : HP G A s us H locs) {index ci k a : Nat} (fl : FL own index ci k) (i j : Nat) (hu : us[i]? = some u) {fs : List Value} (hc : u[j]? = some (a, .inr (ci, fs))) {v : Value} (hv : fs[k]? = some v) (hdg : decode cc pc = .ok (.getfield index, 3))
    (kk : W p l e R s m args below meth c H locs cells slots Q (F0 m (pc + 3) ls (v :: rest))) : W p l e R s m args below meth c H locs cells slots Q (F0 m pc ls (.ref a :: rest)) := by
  obtain ⟨Cn, T, N, ty, ⟨f1, f2, f3, f4⟩, hk, hl⟩ := fl
  obtain ⟨q0, hq, -⟩ := fl_at us i j u _ hu hc
  exact va_get C.hx C.hb C.hts f2 C.hown C.hK h.1 q0 hq f1 k hk (C.hts _ hl) (fun _ h9 => h9) hv hdg kk
theorem g_put (C : MC own cc nL rt G A p s m args meth c) (h : HP G A s us H locs) {index ci k a : Nat} {t : FieldType} (fp : FP own index ci k t) (i j : Nat) (hu : us[i]? = some u) {fs : List Value} (hc : u[j]? = some (a, .inr (ci, fs))) {v : Value} (hn : narrow t v = v) (hfit : fits t v = true) (hl : k < fs.length) (hdg : decode cc pc = .ok (.putfield index, 3)) (hu' : u.set j (a, .inr (ci, fs.set k v)) = u') (hus : us.set i u' = us')
    (kk : ∀ (H1 : Heap) (locs1 : List Loc), HP G A s us' H1 locs1 → W p l e R s m args below meth c H1 locs1 cells slots Q (F0 m (pc + 3) ls rest)) : W p l e R s m args below meth c H locs cells slots Q (F0 m pc ls (v :: .ref a :: rest)) := by
  obtain ⟨Cn, T, N, ty, ⟨f1, f2, f3, f4⟩, hk, hl2, hf, ht⟩ := fp
  obtain ⟨q0, hq, hset⟩ := fl_at us i j u _ hu hc
  refine va_put C.hx C.hb C.hts f2 ty f3 f4 C.hown C.hK h.1 h.2.1 h.2.2 q0 hq f1 k hk (C.hts _ hl2) (fun _ h9 => h9) hf (ty := t) (by rw [← ht]; exact f3 k hk) hn hfit hl hdg (fun H1 locs1 g1 g2 g3 => kk H1 locs1 ?_)
  rw [hset, hu', hus] at g1 g2
  exact ⟨g1, g2, g3⟩
theorem g_iald (C : MC own cc nL rt G A p s m args meth c) (h : HP G A s us H locs) (i j : Nat) (hu : us[i]? = some u) {a n : Nat} {f : Nat → Int32} (hc : u[j]? = some (a, .inl (G.2.1 0, n, .inl f))) {x : Int32} (hin : vp_in x n) (hdg : decode cc pc = .ok (.iaload, 1))
    (kk : W p l e R s m args below meth c H locs cells slots Q (F0 m (pc + 1) ls (.int (f x.toNatClampNeg) :: rest))) : W p l e R s m args below meth c H locs cells slots Q (F0 m pc ls (.int x :: .ref a :: rest)) := by
  obtain ⟨q0, hq, -⟩ := fl_at us i j u _ hu hc
  exact va_iald C.hx C.hb C.hK h.1 q0 0 hq rfl hin hdg kk
theorem g_iast (C : MC own cc nL rt G A p s m args meth c) (h : HP G A s us H locs) (i j : Nat) (hu : us[i]? = some u) {a n : Nat} {f : Nat → Int32} (hc : u[j]? = some (a, .inl (G.2.1 0, n, .inl f))) {x y : Int32} (hin : vp_in x n) (hdg : decode cc pc = .ok (.iastore, 1)) (hu' : u.set j (a, .inl (G.2.1 0, n, .inl (upd f x.toNatClampNeg y))) = u') (hus : us.set i u' = us')
    (kk : ∀ (H1 : Heap) (locs1 : List Loc), HP G A s us' H1 locs1 → W p l e R s m args below meth c H1 locs1 cells slots Q (F0 m (pc + 1) ls rest)) : W p l e R s m args below meth c H locs cells slots Q (F0 m pc ls (.int y :: .int x :: .ref a :: rest)) := by
  obtain ⟨q0, hq, hset⟩ := fl_at us i j u _ hu hc
  refine va_iast C.hx C.hb C.hK h.1 h.2.1 h.2.2 q0 0 hq rfl hin hdg (fun H1 locs1 g1 g2 g3 => kk H1 locs1 ?_)
  rw [hset, hu', hus] at g1 g2
  exact ⟨g1, g2, g3⟩
theorem g_zald (C : MC own cc nL rt G A p s m args meth c) (h : HP G A s us H locs) (i j : Nat) (hu : us[i]? = some u) {a n : Nat} {f : Nat → Int32} (hc : u[j]? = some (a, .inl (G.2.1 1, n, .inl f))) {x : Int32} (hin : vp_in x n) (hdg : decode cc pc = .ok (.baload, 1))
    (kk : W p l e R s m args below meth c H locs cells slots Q (F0 m (pc + 1) ls (.int (f x.toNatClampNeg) :: rest))) : W p l e R s m args below meth c H locs cells slots Q (F0 m pc ls (.int x :: .ref a :: rest)) := by
  obtain ⟨q0, hq, -⟩ := fl_at us i j u _ hu hc
  exact va_zald C.hx C.hb C.hK h.1 q0 1 hq rfl hin hdg kk
theorem g_ret_i (C : MC own cc nL (some .int) G A p s m args meth c) (h : HP G A s us H locs) {x r : Int32} (hr : x = r) (hus : us = us') (hdg : decode cc pc = .ok (.ireturn, 1)) : W p l e R s m args below meth c H locs 0 0 (QI below G A args s r us') (F0 m pc ls [.int x]) := by
  subst hr; subst hus
  exact W.iret C.hx C.hb C.hr (fun t ht _ => ⟨⟨x, (), rfl, rfl, at_H ht h.1⟩, h.2.2.F ht⟩) h.2.2.2.2 hdg C.hk
theorem g_ret_z (C : MC own cc nL (some .boolean) G A p s m args meth c) (h : HP G A s us H locs) {b : Bool} {x r : Int32} (hb : x = b2i b) (hr : x = r) (hus : us = us') (hdg : decode cc pc = .ok (.ireturn, 1)) : W p l e R s m args below meth c H locs 0 0 (QI below G A args s r us') (F0 m pc ls [.int x]) := by
  subst hr; subst hus
  exact W.zret C.hx C.hb C.hr (by rw [hb]; cases b <;> rfl) (fun t ht _ => ⟨⟨x, (), rfl, rfl, at_H ht h.1⟩, h.2.2.F ht⟩) h.2.2.2.2 hdg C.hk
theorem g_ret_l (C : MC own cc nL (some .long) G A p s m args meth c) (h : HP G A s us H locs) {x r : Int64} (hr : x = r) (hus : us = us') (hdg : decode cc pc = .ok (.lreturn, 1)) : W p l e R s m args below meth c H locs 0 0 (QL below G A args s r us') (F0 m pc ls [.long x]) := by
  subst hr; subst hus
  exact W.lret C.hx C.hb C.hr (fun t ht _ => ⟨⟨x, (), rfl, rfl, at_H ht h.1⟩, h.2.2.F ht⟩) h.2.2.2.2 hdg C.hk
theorem g_ret_v (C : MC own cc nL none G A p s m args meth c) (h : HP G A s us H locs) (hus : us = us') (hdg : decode cc pc = .ok (.return_, 1)) : W p l e R s m args below meth c H locs 0 0 (QV below G A args s us') (F0 m pc ls []) := by
  subst hus
  exact W.vret C.hx C.hb C.hr (fun t ht _ => ⟨⟨(), rfl, trivial, at_H ht h.1⟩, h.2.2.F ht⟩) h.2.2.2.2 hdg C.hk
end KROWS
end
section
/-! calls by units -/
section KCALL
variable {own : String} {cc : ByteArray} {nL : Nat} {rt : Option FieldType} {G : GG} {A : Nat → Prop} {p : Program} {l : Launch} {e : Env} {R : Room} {s : State} {m : MethodId} {args : Array Value} {below : List Frame} {meth : Method} {c : Code} {H : Heap} {locs : List Loc} {cells slots : Nat} {Q : State → Prop} {pc : Nat} {ls : Array Slot} {rest st0 : List Value} {us us2 uc uc' : List va_W} {is : List Nat} {a : Array Value}
theorem g_pre (C : MC own cc nL rt G A p s m args meth c) (h : HP G A s us H locs) (hn : va_nd is = true) (hC : is.map (fun i => us[i]?) = uc.map some) {av : List Value} : ∀ U : State, U.heap = H → s.WarmedH U.vm → va_Pc av (CP G uc H.size) av.toArray U := by
  intro U hU hW
  refine ⟨rfl, by rw [hU], at_H hU (h.1.us hC), C.ev.warm hW, ?_, (h.2.1.us hn hC).weaken (fun _ _ _ _ => trivial)⟩
  rw [hU]
  exact C.sx.to h.2.2 (us_free h.2.1 h.2.2 C.hA hC) hW.alike
theorem g_next (C : MC own cc nL rt G A p s m args meth c) (h : HP G A s us H locs) (hn : va_nd is = true) (hC : is.map (fun i => us[i]?) = uc.map some) (hm : fsts uc' = fsts uc) (hus : rpU us is uc' = us2) {t : State} {H1 : Heap} {locs1 : List Loc} (ht : t.heap = H1) (hB : va_P G.1 vwCl uc'.flatten t.heap) (hk : ∀ q : Nat, q < H.size → ¬ va_A uc.flatten H.size q → H1[q]? = H[q]?) (hS : va_S A s.heap H1 locs1) : HP G A s us2 H1 locs1 := by
  subst hus
  have hj := us_join h.1 h.2.1 hn hC hm hk (by rw [← ht]; exact hB)
  exact ⟨hj.1, hj.2, hS⟩
theorem g_goI (C : MC own cc nL rt G A p s m args meth c) (h : HP G A s us H locs) {r : Int32} (hm : fsts uc' = fsts uc) (hn : va_nd is = true) (hC : is.map (fun i => us[i]?) = uc.map some) (hrun : va_Run p l e R s m args below meth c H locs cells slots 0 0 (F0 m pc ls st0) rest (va_Qi (fun x (_ : Unit) => x = r) (fun _ t => va_P G.1 vwCl uc'.flatten t.heap) (va_A uc.flatten H.size) a) (va_A uc.flatten H.size)) (hus : rpU us is uc' = us2)
    (kk : ∀ (H1 : Heap) (locs1 : List Loc), HP G A s us2 H1 locs1 → W p l e R s m args below meth c H1 locs1 cells slots Q (F0 m (pc + 3) ls (.int r :: rest))) : W p l e R s m args below meth c H locs cells slots Q (F0 m pc ls st0) := by
  refine va_calli hrun h.2.2 (fun q _ hq => us_free h.2.1 h.2.2 C.hA hC q hq) (us_free h.2.1 h.2.2 C.hA hC) (fun x u t H1 locs1 ht hvm hp hB hz hk hS => ?_)
  subst hp
  exact kk H1 locs1 (g_next C h hn hC hm hus ht hB hk hS)
theorem g_goL (C : MC own cc nL rt G A p s m args meth c) (h : HP G A s us H locs) {r : Int64} (hm : fsts uc' = fsts uc) (hn : va_nd is = true) (hC : is.map (fun i => us[i]?) = uc.map some) (hrun : va_Run p l e R s m args below meth c H locs cells slots 0 0 (F0 m pc ls st0) rest (va_Ql (fun x (_ : Unit) => x = r) (fun _ t => va_P G.1 vwCl uc'.flatten t.heap) (va_A uc.flatten H.size) a) (va_A uc.flatten H.size)) (hus : rpU us is uc' = us2)
    (kk : ∀ (H1 : Heap) (locs1 : List Loc), HP G A s us2 H1 locs1 → W p l e R s m args below meth c H1 locs1 cells slots Q (F0 m (pc + 3) ls (.long r :: rest))) : W p l e R s m args below meth c H locs cells slots Q (F0 m pc ls st0) := by
  refine va_calll hrun h.2.2 (fun q _ hq => us_free h.2.1 h.2.2 C.hA hC q hq) (us_free h.2.1 h.2.2 C.hA hC) (fun x u t H1 locs1 ht hvm hp hB hz hk hS => ?_)
  subst hp
  exact kk H1 locs1 (g_next C h hn hC hm hus ht hB hk hS)
theorem g_goV (C : MC own cc nL rt G A p s m args meth c) (h : HP G A s us H locs) (hm : fsts uc' = fsts uc) (hn : va_nd is = true) (hC : is.map (fun i => us[i]?) = uc.map some) (hrun : va_Run p l e R s m args below meth c H locs cells slots 0 0 (F0 m pc ls st0) rest (va_Qv (fun (_ : Unit) => True) (fun _ t => va_P G.1 vwCl uc'.flatten t.heap) (va_A uc.flatten H.size) a) (va_A uc.flatten H.size)) (hus : rpU us is uc' = us2)
    (kk : ∀ (H1 : Heap) (locs1 : List Loc), HP G A s us2 H1 locs1 → W p l e R s m args below meth c H1 locs1 cells slots Q (F0 m (pc + 3) ls rest)) : W p l e R s m args below meth c H locs cells slots Q (F0 m pc ls st0) := by
  refine va_callv hrun h.2.2 (fun q _ hq => us_free h.2.1 h.2.2 C.hA hC q hq) (us_free h.2.1 h.2.2 C.hA hC) (fun u t H1 locs1 ht hvm hp hB hz hk hS => ?_)
  exact kk H1 locs1 (g_next C h hn hC hm hus ht hB hk hS)
theorem g_goR (C : MC own cc nL rt G A p s m args meth c) (h : HP G A s us H locs) {r : Nat} (hm : fsts uc' = fsts uc) (hn : va_nd is = true) (hC : is.map (fun i => us[i]?) = uc.map some) (hrun : va_Run p l e R s m args below meth c H locs cells slots 0 0 (F0 m pc ls st0) rest (va_Qr (fun (_ : Unit) => True) (fun _ a t => a = r ∧ va_P G.1 vwCl uc'.flatten t.heap) (va_A uc.flatten H.size) a) (va_A uc.flatten H.size)) (hus : rpU us is uc' = us2)
    (kk : ∀ (H1 : Heap) (locs1 : List Loc), HP G A s us2 H1 locs1 → W p l e R s m args below meth c H1 locs1 cells slots Q (F0 m (pc + 3) ls (.ref r :: rest))) : W p l e R s m args below meth c H locs cells slots Q (F0 m pc ls st0) := by
  refine va_callr hrun h.2.2 (fun q _ hq => us_free h.2.1 h.2.2 C.hA hC q hq) (us_free h.2.1 h.2.2 C.hA hC) (fun u ra t H1 locs1 ht hvm hp hB hz hk hS => ?_)
  obtain ⟨rfl, hB⟩ := hB
  exact kk H1 locs1 (g_next C h hn hC hm hus ht hB hk hS)
/-- what the tables say of a call: virtual, static in its own class, static of a nest mate, super -/
def VF (own : String) (index : Nat) (ci : Nat) (y : MethodName) (bytes : ByteArray) (maxL : Nat) (ret : Option FieldType) (n : Nat) : Prop := ∃ (T : u_T) (N : Nat), vwCl[ci]? = some (y.cls, T, N) ∧ (y.cls ≠ "java/lang/invoke/MethodHandle" ∧ y.cls ≠ "java/lang/invoke/VarHandle" ∧ (parseMethodDescriptor y.desc).map (fun d => d.parameters.length) = some n) ∧ GoodIn gt (wsV own index y.cls y (wdm y bytes maxL ret))
def SF (own : String) (index : Nat) (y : MethodName) (bytes : ByteArray) (maxL : Nat) (ret : Option FieldType) (n : Nat) : Prop := (y.cls = own ∧ y.cls ≠ "java/lang/invoke/MethodHandle" ∧ y.cls ≠ "java/lang/invoke/VarHandle" ∧ (parseMethodDescriptor y.desc).map (fun d => d.parameters.length) = some n) ∧ GoodIn gt (wsS own index y (wdm y bytes maxL ret))
def NF (own : String) (index : Nat) (y : MethodName) (bytes : ByteArray) (maxL : Nat) (ret : Option FieldType) (n : Nat) : Prop := (own, index, y, "OneBell") ∈ nestL ∧ Cond.static y ∈ gt ∧ Cond.initialized y.cls ∈ gt ∧ (y.cls ≠ "java/lang/invoke/MethodHandle" ∧ y.cls ≠ "java/lang/invoke/VarHandle" ∧ (parseMethodDescriptor y.desc).map (fun d => d.parameters.length) = some n) ∧ GoodIn gt (wdm y bytes maxL ret)
variable {y : MethodName} {bytes : ByteArray} {maxL index n ci d dd b : Nat} {ret : Option FieldType} {As : List Value} {Qc : Array Value → State → Outcome → State → Prop} {free : Addr → Prop}
theorem g_runV (C : MC own cc nL rt G A p s m args meth c) (h : HP G A s us H locs) (hn : va_nd is = true) (hC : is.map (fun i => us[i]?) = uc.map some) (hM : Met l y (wdm y bytes maxL ret) (rmm d) (va_Pc (.ref b :: As) (CP G uc H.size)) Qc 0 0 free) (vf : VF own index ci y bytes maxL ret n) (i j : Nat) {u : va_W} (hu : us[i]? = some u) {fs : List Value} (hc : u[j]? = some (b, .inr (ci, fs))) (hsize : ls.size = nL) (hln : As.length = n) (hst : st0 = As.reverse ++ .ref b :: rest) (hW : (rest.map fun v => v.category).sum ≤ 8) (hdg : decode cc pc = .ok (.invokevirtual index, 3)) (hR : d + 1 ≤ R.frames ∧ 8 + (maxL + 11) + 60 * d ≤ R.locals) (hf : cells ≤ R.cells ∧ slots ≤ R.slots) :
    va_Run p l e R s m args below meth c H locs cells slots 0 0 (F0 m pc ls st0) rest (Qc (Value.ref b :: As).toArray) free := by
  obtain ⟨T, N, f1, f2, f3⟩ := vf
  obtain ⟨q0, hq, -⟩ := fl_at us i j u _ hu hc
  exact va_runV C.fix hM (cwV n C.hts f3 rfl rfl rfl ⟨rfl, f2⟩ hR) ⟨CP.blind, va_recv C.hK h.1 f1 hq, g_pre C h hn hC⟩ rfl hln hsize hst (lv_room hW) hdg hf
theorem g_runS (C : MC own cc nL rt G A p s m args meth c) (h : HP G A s us H locs) (hn : va_nd is = true) (hC : is.map (fun i => us[i]?) = uc.map some) (hM : Met l y (wdm y bytes maxL ret) (rmm d) (va_Pc As (CP G uc H.size)) Qc 0 0 free) (sf : SF own index y bytes maxL ret n) (hsize : ls.size = nL) (hln : As.length = n) (hst : st0 = As.reverse ++ rest) (hW : (rest.map fun v => v.category).sum ≤ 8) (hdg : decode cc pc = .ok (.invokestatic index, 3)) (hR : d + 1 ≤ R.frames ∧ 8 + (maxL + 11) + 60 * d ≤ R.locals) (hf : cells ≤ R.cells ∧ slots ≤ R.slots) :
    va_Run p l e R s m args below meth c H locs cells slots 0 0 (F0 m pc ls st0) rest (Qc As.toArray) free :=
  va_runS C.fix hM (cwS n C.hts sf.2 rfl rfl rfl sf.1 hR) ⟨CP.blind, g_pre C h hn hC⟩ rfl hln hsize hst (lv_room hW) hdg hf
theorem g_runN (C : MC own cc nL rt G A p s m args meth c) (h : HP G A s us H locs) (hn : va_nd is = true) (hC : is.map (fun i => us[i]?) = uc.map some) (hM : Met l y (wdm y bytes maxL ret) (rmm d) (va_Pc As (CP G uc H.size)) Qc 0 0 free) (nf : NF own index y bytes maxL ret n) (hsize : ls.size = nL) (hln : As.length = n) (hst : st0 = As.reverse ++ rest) (hW : (rest.map fun v => v.category).sum ≤ 8) (hdg : decode cc pc = .ok (.invokestatic index, 3)) (hR : d + 1 ≤ R.frames ∧ 8 + (maxL + 11) + 60 * d ≤ R.locals) (hf : cells ≤ R.cells ∧ slots ≤ R.slots) :
    va_Run p l e R s m args below meth c H locs cells slots 0 0 (F0 m pc ls st0) rest (Qc As.toArray) free :=
  va_runSN C.fix hM ⟨va_cnB n C.hts nf.2.2.2.2 rfl rfl rfl (C.ev.2.1 _ nf.1) (C.hts _ nf.2.2.1) nf.2.2.2.1 hR, C.hts _ nf.2.1, trivial⟩ ⟨CP.blind, g_pre C h hn hC⟩ rfl hln hsize hst (lv_room hW) hdg hf
end KCALL
theorem VF.mk {own : String} {index ci : Nat} {y : MethodName} {bytes : ByteArray} {maxL : Nat} {ret : Option FieldType} {n : Nat} {T : u_T} {N : Nat} (h0 : vwCl[ci]? = some (y.cls, T, N)) (hd : y.cls ≠ "java/lang/invoke/MethodHandle" ∧ y.cls ≠ "java/lang/invoke/VarHandle" ∧ (parseMethodDescriptor y.desc).map (fun d => d.parameters.length) = some n) (h1 : Cond.methodLink own index y ∈ gt) (h2 : Cond.instanceMethod y ∈ gt) (h3 : Cond.selects y.cls y y ∈ gt) (h4 : Cond.initialized y.cls ∈ gt) (h5 : Cond.code y bytes maxL ret ∈ gt) : VF own index ci y bytes maxL ret n :=
  ⟨T, N, h0, hd, goodIn_gtA (fun z hz => by
    simp only [List.mem_cons, List.not_mem_nil, or_false] at hz
    rcases hz with rfl | rfl | rfl | rfl <;> assumption) h5⟩
theorem SF.mk {own : String} {index : Nat} {y : MethodName} {bytes : ByteArray} {maxL : Nat} {ret : Option FieldType} {n : Nat} (hd : y.cls = own ∧ y.cls ≠ "java/lang/invoke/MethodHandle" ∧ y.cls ≠ "java/lang/invoke/VarHandle" ∧ (parseMethodDescriptor y.desc).map (fun d => d.parameters.length) = some n) (h1 : Cond.methodLink own index y ∈ gt) (h2 : Cond.static y ∈ gt) (h4 : Cond.initialized own ∈ gt) (h5 : Cond.code y bytes maxL ret ∈ gt) : SF own index y bytes maxL ret n :=
  ⟨hd, goodIn_gtA (fun z hz => by
    simp only [List.mem_cons, List.not_mem_nil, or_false] at hz
    rcases hz with rfl | rfl | rfl <;> assumption) h5⟩
end
section
theorem dX0_init_0 : decode cX0_init 0 = .ok (.aload_n 0, 1) := by decide +kernel
theorem dX0_init_1 : decode cX0_init 1 = .ok (.invokespecial 3, 3) := by decide +kernel
theorem dX0_init_4 : decode cX0_init 4 = .ok (.aload_n 0, 1) := by decide +kernel
theorem dX0_init_5 : decode cX0_init 5 = .ok (.iconst 0, 1) := by decide +kernel
theorem dX0_init_6 : decode cX0_init 6 = .ok (.putfield 9, 3) := by decide +kernel
theorem dX0_init_9 : decode cX0_init 9 = .ok (.aload_n 0, 1) := by decide +kernel
theorem dX0_init_10 : decode cX0_init 10 = .ok (.iconst 5, 1) := by decide +kernel
theorem dX0_init_11 : decode cX0_init 11 = .ok (.newarray .int, 2) := by decide +kernel
theorem dX0_init_13 : decode cX0_init 13 = .ok (.putfield 15, 3) := by decide +kernel
theorem dX0_init_16 : decode cX0_init 16 = .ok (.aload_n 0, 1) := by decide +kernel
theorem dX0_init_17 : decode cX0_init 17 = .ok (.iconst 5, 1) := by decide +kernel
theorem dX0_init_18 : decode cX0_init 18 = .ok (.newarray .int, 2) := by decide +kernel
theorem dX0_init_20 : decode cX0_init 20 = .ok (.putfield 19, 3) := by decide +kernel
theorem dX0_init_23 : decode cX0_init 23 = .ok (.aload_n 0, 1) := by decide +kernel
theorem dX0_init_24 : decode cX0_init 24 = .ok (.iconst 5, 1) := by decide +kernel
theorem dX0_init_25 : decode cX0_init 25 = .ok (.newarray .int, 2) := by decide +kernel
theorem dX0_init_27 : decode cX0_init 27 = .ok (.putfield 22, 3) := by decide +kernel
theorem dX0_init_30 : decode cX0_init 30 = .ok (.aload_n 0, 1) := by decide +kernel
theorem dX0_init_31 : decode cX0_init 31 = .ok (.iconst 0, 1) := by decide +kernel
theorem dX0_init_32 : decode cX0_init 32 = .ok (.putfield 25, 3) := by decide +kernel
theorem dX0_init_35 : decode cX0_init 35 = .ok (.aload_n 0, 1) := by decide +kernel
theorem dX0_init_36 : decode cX0_init 36 = .ok (.iconst 5, 1) := by decide +kernel
theorem dX0_init_37 : decode cX0_init 37 = .ok (.newarray .int, 2) := by decide +kernel
theorem dX0_init_39 : decode cX0_init 39 = .ok (.putfield 28, 3) := by decide +kernel
theorem dX0_init_42 : decode cX0_init 42 = .ok (.aload_n 0, 1) := by decide +kernel
theorem dX0_init_43 : decode cX0_init 43 = .ok (.iconst 5, 1) := by decide +kernel
theorem dX0_init_44 : decode cX0_init 44 = .ok (.newarray .int, 2) := by decide +kernel
theorem dX0_init_46 : decode cX0_init 46 = .ok (.putfield 31, 3) := by decide +kernel
theorem dX0_init_49 : decode cX0_init 49 = .ok (.aload_n 0, 1) := by decide +kernel
theorem dX0_init_50 : decode cX0_init 50 = .ok (.bipush 32, 2) := by decide +kernel
theorem dX0_init_52 : decode cX0_init 52 = .ok (.newarray .int, 2) := by decide +kernel
theorem dX0_init_54 : decode cX0_init 54 = .ok (.putfield 34, 3) := by decide +kernel
theorem dX0_init_57 : decode cX0_init 57 = .ok (.aload_n 0, 1) := by decide +kernel
theorem dX0_init_58 : decode cX0_init 58 = .ok (.bipush 32, 2) := by decide +kernel
theorem dX0_init_60 : decode cX0_init 60 = .ok (.newarray .int, 2) := by decide +kernel
theorem dX0_init_62 : decode cX0_init 62 = .ok (.putfield 37, 3) := by decide +kernel
theorem dX0_init_65 : decode cX0_init 65 = .ok (.aload_n 0, 1) := by decide +kernel
theorem dX0_init_66 : decode cX0_init 66 = .ok (.bipush 32, 2) := by decide +kernel
theorem dX0_init_68 : decode cX0_init 68 = .ok (.newarray .int, 2) := by decide +kernel
theorem dX0_init_70 : decode cX0_init 70 = .ok (.putfield 40, 3) := by decide +kernel
theorem dX0_init_73 : decode cX0_init 73 = .ok (.aload_n 0, 1) := by decide +kernel
theorem dX0_init_74 : decode cX0_init 74 = .ok (.bipush 32, 2) := by decide +kernel
theorem dX0_init_76 : decode cX0_init 76 = .ok (.newarray .int, 2) := by decide +kernel
theorem dX0_init_78 : decode cX0_init 78 = .ok (.putfield 43, 3) := by decide +kernel
theorem dX0_init_81 : decode cX0_init 81 = .ok (.aload_n 0, 1) := by decide +kernel
theorem dX0_init_82 : decode cX0_init 82 = .ok (.bipush 32, 2) := by decide +kernel
theorem dX0_init_84 : decode cX0_init 84 = .ok (.newarray .int, 2) := by decide +kernel
theorem dX0_init_86 : decode cX0_init 86 = .ok (.putfield 46, 3) := by decide +kernel
theorem dX0_init_89 : decode cX0_init 89 = .ok (.aload_n 0, 1) := by decide +kernel
theorem dX0_init_90 : decode cX0_init 90 = .ok (.iconst 0, 1) := by decide +kernel
theorem dX0_init_91 : decode cX0_init 91 = .ok (.putfield 49, 3) := by decide +kernel
theorem dX0_init_94 : decode cX0_init 94 = .ok (.aload_n 0, 1) := by decide +kernel
theorem dX0_init_95 : decode cX0_init 95 = .ok (.iconst 1, 1) := by decide +kernel
theorem dX0_init_96 : decode cX0_init 96 = .ok (.putfield 52, 3) := by decide +kernel
theorem dX0_init_99 : decode cX0_init 99 = .ok (.aload_n 0, 1) := by decide +kernel
theorem dX0_init_100 : decode cX0_init 100 = .ok (.bipush 32, 2) := by decide +kernel
theorem dX0_init_102 : decode cX0_init 102 = .ok (.newarray .int, 2) := by decide +kernel
theorem dX0_init_104 : decode cX0_init 104 = .ok (.putfield 55, 3) := by decide +kernel
theorem dX0_init_107 : decode cX0_init 107 = .ok (.aload_n 0, 1) := by decide +kernel
theorem dX0_init_108 : decode cX0_init 108 = .ok (.aload_n 1, 1) := by decide +kernel
theorem dX0_init_109 : decode cX0_init 109 = .ok (.putfield 58, 3) := by decide +kernel
theorem dX0_init_112 : decode cX0_init 112 = .ok (.return_, 1) := by decide +kernel
theorem dX0_look_0 : decode cX0_look 0 = .ok (.aload_n 0, 1) := by decide +kernel
theorem dX0_look_1 : decode cX0_look 1 = .ok (.aload_n 1, 1) := by decide +kernel
theorem dX0_look_2 : decode cX0_look 2 = .ok (.getfield 62, 3) := by decide +kernel
theorem dX0_look_5 : decode cX0_look 5 = .ok (.putfield 9, 3) := by decide +kernel
theorem dX0_look_8 : decode cX0_look 8 = .ok (.iconst 0, 1) := by decide +kernel
theorem dX0_look_9 : decode cX0_look 9 = .ok (.istore_n 3, 1) := by decide +kernel
theorem dX0_look_10 : decode cX0_look 10 = .ok (.iload_n 3, 1) := by decide +kernel
theorem dX0_look_11 : decode cX0_look 11 = .ok (.aload_n 0, 1) := by decide +kernel
theorem dX0_look_12 : decode cX0_look 12 = .ok (.getfield 9, 3) := by decide +kernel
theorem dX0_look_15 : decode cX0_look 15 = .ok (.if_icmp .ge 71, 3) := by decide +kernel
theorem dX0_look_18 : decode cX0_look 18 = .ok (.aload_n 0, 1) := by decide +kernel
theorem dX0_look_19 : decode cX0_look 19 = .ok (.getfield 58, 3) := by decide +kernel
theorem dX0_look_22 : decode cX0_look 22 = .ok (.aload_n 1, 1) := by decide +kernel
theorem dX0_look_23 : decode cX0_look 23 = .ok (.iload_n 2, 1) := by decide +kernel
theorem dX0_look_24 : decode cX0_look 24 = .ok (.aload_n 1, 1) := by decide +kernel
theorem dX0_look_25 : decode cX0_look 25 = .ok (.getfield 65, 3) := by decide +kernel
theorem dX0_look_28 : decode cX0_look 28 = .ok (.iload_n 3, 1) := by decide +kernel
theorem dX0_look_29 : decode cX0_look 29 = .ok (.iaload, 1) := by decide +kernel
theorem dX0_look_30 : decode cX0_look 30 = .ok (.aload_n 1, 1) := by decide +kernel
theorem dX0_look_31 : decode cX0_look 31 = .ok (.getfield 68, 3) := by decide +kernel
theorem dX0_look_34 : decode cX0_look 34 = .ok (.iload_n 3, 1) := by decide +kernel
theorem dX0_look_35 : decode cX0_look 35 = .ok (.iaload, 1) := by decide +kernel
theorem dX0_look_36 : decode cX0_look 36 = .ok (.iconst (-1), 1) := by decide +kernel
theorem dX0_look_37 : decode cX0_look 37 = .ok (.iconst 0, 1) := by decide +kernel
theorem dX0_look_38 : decode cX0_look 38 = .ok (.invokevirtual 71, 3) := by decide +kernel
theorem dX0_look_41 : decode cX0_look 41 = .ok (.aload_n 0, 1) := by decide +kernel
theorem dX0_look_42 : decode cX0_look 42 = .ok (.getfield 15, 3) := by decide +kernel
theorem dX0_look_45 : decode cX0_look 45 = .ok (.iload_n 3, 1) := by decide +kernel
theorem dX0_look_46 : decode cX0_look 46 = .ok (.aload_n 0, 1) := by decide +kernel
theorem dX0_look_47 : decode cX0_look 47 = .ok (.getfield 58, 3) := by decide +kernel
theorem dX0_look_50 : decode cX0_look 50 = .ok (.getfield 77, 3) := by decide +kernel
theorem dX0_look_53 : decode cX0_look 53 = .ok (.iastore, 1) := by decide +kernel
theorem dX0_look_54 : decode cX0_look 54 = .ok (.aload_n 0, 1) := by decide +kernel
theorem dX0_look_55 : decode cX0_look 55 = .ok (.getfield 19, 3) := by decide +kernel
theorem dX0_look_58 : decode cX0_look 58 = .ok (.iload_n 3, 1) := by decide +kernel
theorem dX0_look_59 : decode cX0_look 59 = .ok (.aload_n 0, 1) := by decide +kernel
theorem dX0_look_60 : decode cX0_look 60 = .ok (.getfield 58, 3) := by decide +kernel
theorem dX0_look_63 : decode cX0_look 63 = .ok (.getfield 79, 3) := by decide +kernel
theorem dX0_look_66 : decode cX0_look 66 = .ok (.iastore, 1) := by decide +kernel
theorem dX0_look_67 : decode cX0_look 67 = .ok (.aload_n 0, 1) := by decide +kernel
theorem dX0_look_68 : decode cX0_look 68 = .ok (.getfield 22, 3) := by decide +kernel
theorem dX0_look_71 : decode cX0_look 71 = .ok (.iload_n 3, 1) := by decide +kernel
theorem dX0_look_72 : decode cX0_look 72 = .ok (.aload_n 0, 1) := by decide +kernel
theorem dX0_look_73 : decode cX0_look 73 = .ok (.getfield 58, 3) := by decide +kernel
theorem dX0_look_76 : decode cX0_look 76 = .ok (.invokevirtual 81, 3) := by decide +kernel
theorem dX0_look_79 : decode cX0_look 79 = .ok (.iastore, 1) := by decide +kernel
theorem dX0_look_80 : decode cX0_look 80 = .ok (.iinc 3 1, 3) := by decide +kernel
theorem dX0_look_83 : decode cX0_look 83 = .ok (.goto (-73), 3) := by decide +kernel
theorem dX0_look_86 : decode cX0_look 86 = .ok (.return_, 1) := by decide +kernel
theorem dX0_behind_0 : decode cX0_behind 0 = .ok (.iload_n 2, 1) := by decide +kernel
theorem dX0_behind_1 : decode cX0_behind 1 = .ok (.aload_n 0, 1) := by decide +kernel
theorem dX0_behind_2 : decode cX0_behind 2 = .ok (.getfield 15, 3) := by decide +kernel
theorem dX0_behind_5 : decode cX0_behind 5 = .ok (.iload_n 1, 1) := by decide +kernel
theorem dX0_behind_6 : decode cX0_behind 6 = .ok (.iaload, 1) := by decide +kernel
theorem dX0_behind_7 : decode cX0_behind 7 = .ok (.iand, 1) := by decide +kernel
theorem dX0_behind_8 : decode cX0_behind 8 = .ok (.aload_n 0, 1) := by decide +kernel
theorem dX0_behind_9 : decode cX0_behind 9 = .ok (.getfield 19, 3) := by decide +kernel
theorem dX0_behind_12 : decode cX0_behind 12 = .ok (.iload_n 1, 1) := by decide +kernel
theorem dX0_behind_13 : decode cX0_behind 13 = .ok (.iaload, 1) := by decide +kernel
theorem dX0_behind_14 : decode cX0_behind 14 = .ok (.ixor, 1) := by decide +kernel
theorem dX0_behind_15 : decode cX0_behind 15 = .ok (.ireturn, 1) := by decide +kernel
theorem dX0_findOrder_0 : decode cX0_findOrder 0 = .ok (.aload_n 0, 1) := by decide +kernel
theorem dX0_findOrder_1 : decode cX0_findOrder 1 = .ok (.aload_n 1, 1) := by decide +kernel
theorem dX0_findOrder_2 : decode cX0_findOrder 2 = .ok (.aload_n 1, 1) := by decide +kernel
theorem dX0_findOrder_3 : decode cX0_findOrder 3 = .ok (.getfield 84, 3) := by decide +kernel
theorem dX0_findOrder_6 : decode cX0_findOrder 6 = .ok (.invokevirtual 87, 3) := by decide +kernel
theorem dX0_findOrder_9 : decode cX0_findOrder 9 = .ok (.aload_n 0, 1) := by decide +kernel
theorem dX0_findOrder_10 : decode cX0_findOrder 10 = .ok (.ldc 91, 2) := by decide +kernel
theorem dX0_findOrder_12 : decode cX0_findOrder 12 = .ok (.putfield 25, 3) := by decide +kernel
theorem dX0_findOrder_15 : decode cX0_findOrder 15 = .ok (.aload_n 0, 1) := by decide +kernel
theorem dX0_findOrder_16 : decode cX0_findOrder 16 = .ok (.aload_n 1, 1) := by decide +kernel
theorem dX0_findOrder_17 : decode cX0_findOrder 17 = .ok (.iconst 0, 1) := by decide +kernel
theorem dX0_findOrder_18 : decode cX0_findOrder 18 = .ok (.iconst 0, 1) := by decide +kernel
theorem dX0_findOrder_19 : decode cX0_findOrder 19 = .ok (.aload_n 1, 1) := by decide +kernel
theorem dX0_findOrder_20 : decode cX0_findOrder 20 = .ok (.getfield 92, 3) := by decide +kernel
theorem dX0_findOrder_23 : decode cX0_findOrder 23 = .ok (.iconst 0, 1) := by decide +kernel
theorem dX0_findOrder_24 : decode cX0_findOrder 24 = .ok (.invokevirtual 95, 3) := by decide +kernel
theorem dX0_findOrder_27 : decode cX0_findOrder 27 = .ok (.return_, 1) := by decide +kernel
theorem dX0_findRest_0 : decode cX0_findRest 0 = .ok (.iload_n 2, 1) := by decide +kernel
theorem dX0_findRest_1 : decode cX0_findRest 1 = .ok (.aload_n 0, 1) := by decide +kernel
theorem dX0_findRest_2 : decode cX0_findRest 2 = .ok (.getfield 9, 3) := by decide +kernel
theorem dX0_findRest_5 : decode cX0_findRest 5 = .ok (.if_icmp .lt 24, 3) := by decide +kernel
theorem dX0_findRest_8 : decode cX0_findRest 8 = .ok (.aload_n 0, 1) := by decide +kernel
theorem dX0_findRest_9 : decode cX0_findRest 9 = .ok (.iload 5, 2) := by decide +kernel
theorem dX0_findRest_11 : decode cX0_findRest 11 = .ok (.putfield 25, 3) := by decide +kernel
theorem dX0_findRest_14 : decode cX0_findRest 14 = .ok (.aload_n 0, 1) := by decide +kernel
theorem dX0_findRest_15 : decode cX0_findRest 15 = .ok (.getfield 31, 3) := by decide +kernel
theorem dX0_findRest_18 : decode cX0_findRest 18 = .ok (.iconst 0, 1) := by decide +kernel
theorem dX0_findRest_19 : decode cX0_findRest 19 = .ok (.aload_n 0, 1) := by decide +kernel
theorem dX0_findRest_20 : decode cX0_findRest 20 = .ok (.getfield 28, 3) := by decide +kernel
theorem dX0_findRest_23 : decode cX0_findRest 23 = .ok (.iconst 0, 1) := by decide +kernel
theorem dX0_findRest_24 : decode cX0_findRest 24 = .ok (.iconst 5, 1) := by decide +kernel
theorem dX0_findRest_25 : decode cX0_findRest 25 = .ok (.invokestatic 99, 3) := by decide +kernel
theorem dX0_findRest_28 : decode cX0_findRest 28 = .ok (.return_, 1) := by decide +kernel
theorem dX0_findRest_29 : decode cX0_findRest 29 = .ok (.iconst 0, 1) := by decide +kernel
theorem dX0_findRest_30 : decode cX0_findRest 30 = .ok (.istore 6, 2) := by decide +kernel
theorem dX0_findRest_32 : decode cX0_findRest 32 = .ok (.iload 6, 2) := by decide +kernel
theorem dX0_findRest_34 : decode cX0_findRest 34 = .ok (.aload_n 0, 1) := by decide +kernel
theorem dX0_findRest_35 : decode cX0_findRest 35 = .ok (.getfield 9, 3) := by decide +kernel
theorem dX0_findRest_38 : decode cX0_findRest 38 = .ok (.if_icmp .ge 85, 3) := by decide +kernel
theorem dX0_findRest_41 : decode cX0_findRest 41 = .ok (.iload_n 3, 1) := by decide +kernel
theorem dX0_findRest_42 : decode cX0_findRest 42 = .ok (.iload 6, 2) := by decide +kernel
theorem dX0_findRest_44 : decode cX0_findRest 44 = .ok (.invokestatic 105, 3) := by decide +kernel
theorem dX0_findRest_47 : decode cX0_findRest 47 = .ok (.ifCond .eq 6, 3) := by decide +kernel
theorem dX0_findRest_50 : decode cX0_findRest 50 = .ok (.goto 67, 3) := by decide +kernel
theorem dX0_findRest_53 : decode cX0_findRest 53 = .ok (.aload_n 0, 1) := by decide +kernel
theorem dX0_findRest_54 : decode cX0_findRest 54 = .ok (.iload 6, 2) := by decide +kernel
theorem dX0_findRest_56 : decode cX0_findRest 56 = .ok (.iload 4, 2) := by decide +kernel
theorem dX0_findRest_58 : decode cX0_findRest 58 = .ok (.invokevirtual 109, 3) := by decide +kernel
theorem dX0_findRest_61 : decode cX0_findRest 61 = .ok (.istore 7, 2) := by decide +kernel
theorem dX0_findRest_63 : decode cX0_findRest 63 = .ok (.iload 5, 2) := by decide +kernel
theorem dX0_findRest_65 : decode cX0_findRest 65 = .ok (.aload_n 1, 1) := by decide +kernel
theorem dX0_findRest_66 : decode cX0_findRest 66 = .ok (.iload 7, 2) := by decide +kernel
theorem dX0_findRest_68 : decode cX0_findRest 68 = .ok (.iload 4, 2) := by decide +kernel
theorem dX0_findRest_70 : decode cX0_findRest 70 = .ok (.iconst (-1), 1) := by decide +kernel
theorem dX0_findRest_71 : decode cX0_findRest 71 = .ok (.ixor, 1) := by decide +kernel
theorem dX0_findRest_72 : decode cX0_findRest 72 = .ok (.iand, 1) := by decide +kernel
theorem dX0_findRest_73 : decode cX0_findRest 73 = .ok (.invokevirtual 113, 3) := by decide +kernel
theorem dX0_findRest_76 : decode cX0_findRest 76 = .ok (.iadd, 1) := by decide +kernel
theorem dX0_findRest_77 : decode cX0_findRest 77 = .ok (.istore 8, 2) := by decide +kernel
theorem dX0_findRest_79 : decode cX0_findRest 79 = .ok (.iload 8, 2) := by decide +kernel
theorem dX0_findRest_81 : decode cX0_findRest 81 = .ok (.aload_n 0, 1) := by decide +kernel
theorem dX0_findRest_82 : decode cX0_findRest 82 = .ok (.getfield 25, 3) := by decide +kernel
theorem dX0_findRest_85 : decode cX0_findRest 85 = .ok (.if_icmp .lt 6, 3) := by decide +kernel
theorem dX0_findRest_88 : decode cX0_findRest 88 = .ok (.goto 29, 3) := by decide +kernel
theorem dX0_findRest_91 : decode cX0_findRest 91 = .ok (.aload_n 0, 1) := by decide +kernel
theorem dX0_findRest_92 : decode cX0_findRest 92 = .ok (.getfield 31, 3) := by decide +kernel
theorem dX0_findRest_95 : decode cX0_findRest 95 = .ok (.iload_n 2, 1) := by decide +kernel
theorem dX0_findRest_96 : decode cX0_findRest 96 = .ok (.iload 6, 2) := by decide +kernel
theorem dX0_findRest_98 : decode cX0_findRest 98 = .ok (.iastore, 1) := by decide +kernel
theorem dX0_findRest_99 : decode cX0_findRest 99 = .ok (.aload_n 0, 1) := by decide +kernel
theorem dX0_findRest_100 : decode cX0_findRest 100 = .ok (.aload_n 1, 1) := by decide +kernel
theorem dX0_findRest_101 : decode cX0_findRest 101 = .ok (.iload_n 2, 1) := by decide +kernel
theorem dX0_findRest_102 : decode cX0_findRest 102 = .ok (.iconst 1, 1) := by decide +kernel
theorem dX0_findRest_103 : decode cX0_findRest 103 = .ok (.iadd, 1) := by decide +kernel
theorem dX0_findRest_104 : decode cX0_findRest 104 = .ok (.iload_n 3, 1) := by decide +kernel
theorem dX0_findRest_105 : decode cX0_findRest 105 = .ok (.iconst 1, 1) := by decide +kernel
theorem dX0_findRest_106 : decode cX0_findRest 106 = .ok (.iload 6, 2) := by decide +kernel
theorem dX0_findRest_108 : decode cX0_findRest 108 = .ok (.ishl, 1) := by decide +kernel
theorem dX0_findRest_109 : decode cX0_findRest 109 = .ok (.ior, 1) := by decide +kernel
theorem dX0_findRest_110 : decode cX0_findRest 110 = .ok (.iload 7, 2) := by decide +kernel
theorem dX0_findRest_112 : decode cX0_findRest 112 = .ok (.iload 8, 2) := by decide +kernel
theorem dX0_findRest_114 : decode cX0_findRest 114 = .ok (.invokevirtual 95, 3) := by decide +kernel
theorem dX0_findRest_117 : decode cX0_findRest 117 = .ok (.iinc 6 1, 3) := by decide +kernel
theorem dX0_findRest_120 : decode cX0_findRest 120 = .ok (.goto (-88), 3) := by decide +kernel
theorem dX0_findRest_123 : decode cX0_findRest 123 = .ok (.return_, 1) := by decide +kernel
theorem dX0_findCodes_0 : decode cX0_findCodes 0 = .ok (.aload_n 0, 1) := by decide +kernel
theorem dX0_findCodes_1 : decode cX0_findCodes 1 = .ok (.aload_n 1, 1) := by decide +kernel
theorem dX0_findCodes_2 : decode cX0_findCodes 2 = .ok (.aload_n 1, 1) := by decide +kernel
theorem dX0_findCodes_3 : decode cX0_findCodes 3 = .ok (.getfield 84, 3) := by decide +kernel
theorem dX0_findCodes_6 : decode cX0_findCodes 6 = .ok (.invokevirtual 87, 3) := by decide +kernel
theorem dX0_findCodes_9 : decode cX0_findCodes 9 = .ok (.iconst 0, 1) := by decide +kernel
theorem dX0_findCodes_10 : decode cX0_findCodes 10 = .ok (.istore_n 2, 1) := by decide +kernel
theorem dX0_findCodes_11 : decode cX0_findCodes 11 = .ok (.iload_n 2, 1) := by decide +kernel
theorem dX0_findCodes_12 : decode cX0_findCodes 12 = .ok (.bipush 32, 2) := by decide +kernel
theorem dX0_findCodes_14 : decode cX0_findCodes 14 = .ok (.if_icmp .ge 16, 3) := by decide +kernel
theorem dX0_findCodes_17 : decode cX0_findCodes 17 = .ok (.aload_n 0, 1) := by decide +kernel
theorem dX0_findCodes_18 : decode cX0_findCodes 18 = .ok (.getfield 34, 3) := by decide +kernel
theorem dX0_findCodes_21 : decode cX0_findCodes 21 = .ok (.iload_n 2, 1) := by decide +kernel
theorem dX0_findCodes_22 : decode cX0_findCodes 22 = .ok (.iconst (-1), 1) := by decide +kernel
theorem dX0_findCodes_23 : decode cX0_findCodes 23 = .ok (.iastore, 1) := by decide +kernel
theorem dX0_findCodes_24 : decode cX0_findCodes 24 = .ok (.iinc 2 1, 3) := by decide +kernel
theorem dX0_findCodes_27 : decode cX0_findCodes 27 = .ok (.goto (-16), 3) := by decide +kernel
theorem dX0_findCodes_30 : decode cX0_findCodes 30 = .ok (.aload_n 0, 1) := by decide +kernel
theorem dX0_findCodes_31 : decode cX0_findCodes 31 = .ok (.getfield 34, 3) := by decide +kernel
theorem dX0_findCodes_34 : decode cX0_findCodes 34 = .ok (.aload_n 1, 1) := by decide +kernel
theorem dX0_findCodes_35 : decode cX0_findCodes 35 = .ok (.getfield 92, 3) := by decide +kernel
theorem dX0_findCodes_38 : decode cX0_findCodes 38 = .ok (.iconst 0, 1) := by decide +kernel
theorem dX0_findCodes_39 : decode cX0_findCodes 39 = .ok (.iastore, 1) := by decide +kernel
theorem dX0_findCodes_40 : decode cX0_findCodes 40 = .ok (.aload_n 0, 1) := by decide +kernel
theorem dX0_findCodes_41 : decode cX0_findCodes 41 = .ok (.getfield 43, 3) := by decide +kernel
theorem dX0_findCodes_44 : decode cX0_findCodes 44 = .ok (.iconst 0, 1) := by decide +kernel
theorem dX0_findCodes_45 : decode cX0_findCodes 45 = .ok (.aload_n 1, 1) := by decide +kernel
theorem dX0_findCodes_46 : decode cX0_findCodes 46 = .ok (.getfield 92, 3) := by decide +kernel
theorem dX0_findCodes_49 : decode cX0_findCodes 49 = .ok (.iastore, 1) := by decide +kernel
theorem dX0_findCodes_50 : decode cX0_findCodes 50 = .ok (.iconst 1, 1) := by decide +kernel
theorem dX0_findCodes_51 : decode cX0_findCodes 51 = .ok (.istore_n 2, 1) := by decide +kernel
theorem dX0_findCodes_52 : decode cX0_findCodes 52 = .ok (.iconst 0, 1) := by decide +kernel
theorem dX0_findCodes_53 : decode cX0_findCodes 53 = .ok (.istore_n 3, 1) := by decide +kernel
theorem dX0_findCodes_54 : decode cX0_findCodes 54 = .ok (.iload_n 3, 1) := by decide +kernel
theorem dX0_findCodes_55 : decode cX0_findCodes 55 = .ok (.iload_n 2, 1) := by decide +kernel
theorem dX0_findCodes_56 : decode cX0_findCodes 56 = .ok (.if_icmp .ge 116, 3) := by decide +kernel
theorem dX0_findCodes_59 : decode cX0_findCodes 59 = .ok (.iload_n 3, 1) := by decide +kernel
theorem dX0_findCodes_60 : decode cX0_findCodes 60 = .ok (.bipush 32, 2) := by decide +kernel
theorem dX0_findCodes_62 : decode cX0_findCodes 62 = .ok (.if_icmp .ge 110, 3) := by decide +kernel
theorem dX0_findCodes_65 : decode cX0_findCodes 65 = .ok (.aload_n 0, 1) := by decide +kernel
theorem dX0_findCodes_66 : decode cX0_findCodes 66 = .ok (.getfield 43, 3) := by decide +kernel
theorem dX0_findCodes_69 : decode cX0_findCodes 69 = .ok (.iload_n 3, 1) := by decide +kernel
theorem dX0_findCodes_70 : decode cX0_findCodes 70 = .ok (.iaload, 1) := by decide +kernel
theorem dX0_findCodes_71 : decode cX0_findCodes 71 = .ok (.istore 4, 2) := by decide +kernel
theorem dX0_findCodes_73 : decode cX0_findCodes 73 = .ok (.iconst 0, 1) := by decide +kernel
theorem dX0_findCodes_74 : decode cX0_findCodes 74 = .ok (.istore 5, 2) := by decide +kernel
theorem dX0_findCodes_76 : decode cX0_findCodes 76 = .ok (.iload 5, 2) := by decide +kernel
theorem dX0_findCodes_78 : decode cX0_findCodes 78 = .ok (.aload_n 0, 1) := by decide +kernel
theorem dX0_findCodes_79 : decode cX0_findCodes 79 = .ok (.getfield 9, 3) := by decide +kernel
theorem dX0_findCodes_82 : decode cX0_findCodes 82 = .ok (.if_icmp .ge 84, 3) := by decide +kernel
theorem dX0_findCodes_85 : decode cX0_findCodes 85 = .ok (.aload_n 0, 1) := by decide +kernel
theorem dX0_findCodes_86 : decode cX0_findCodes 86 = .ok (.iload 5, 2) := by decide +kernel
theorem dX0_findCodes_88 : decode cX0_findCodes 88 = .ok (.iload 4, 2) := by decide +kernel
theorem dX0_findCodes_90 : decode cX0_findCodes 90 = .ok (.invokevirtual 109, 3) := by decide +kernel
theorem dX0_findCodes_93 : decode cX0_findCodes 93 = .ok (.istore 6, 2) := by decide +kernel
theorem dX0_findCodes_95 : decode cX0_findCodes 95 = .ok (.aload_n 0, 1) := by decide +kernel
theorem dX0_findCodes_96 : decode cX0_findCodes 96 = .ok (.getfield 34, 3) := by decide +kernel
theorem dX0_findCodes_99 : decode cX0_findCodes 99 = .ok (.iload 6, 2) := by decide +kernel
theorem dX0_findCodes_101 : decode cX0_findCodes 101 = .ok (.iaload, 1) := by decide +kernel
theorem dX0_findCodes_102 : decode cX0_findCodes 102 = .ok (.iconst (-1), 1) := by decide +kernel
theorem dX0_findCodes_103 : decode cX0_findCodes 103 = .ok (.if_icmp .ne 57, 3) := by decide +kernel
theorem dX0_findCodes_106 : decode cX0_findCodes 106 = .ok (.iload_n 2, 1) := by decide +kernel
theorem dX0_findCodes_107 : decode cX0_findCodes 107 = .ok (.bipush 32, 2) := by decide +kernel
theorem dX0_findCodes_109 : decode cX0_findCodes 109 = .ok (.if_icmp .lt 6, 3) := by decide +kernel
theorem dX0_findCodes_112 : decode cX0_findCodes 112 = .ok (.goto 48, 3) := by decide +kernel
theorem dX0_findCodes_115 : decode cX0_findCodes 115 = .ok (.aload_n 0, 1) := by decide +kernel
theorem dX0_findCodes_116 : decode cX0_findCodes 116 = .ok (.getfield 34, 3) := by decide +kernel
theorem dX0_findCodes_119 : decode cX0_findCodes 119 = .ok (.iload 6, 2) := by decide +kernel
theorem dX0_findCodes_121 : decode cX0_findCodes 121 = .ok (.aload_n 0, 1) := by decide +kernel
theorem dX0_findCodes_122 : decode cX0_findCodes 122 = .ok (.getfield 34, 3) := by decide +kernel
theorem dX0_findCodes_125 : decode cX0_findCodes 125 = .ok (.iload 4, 2) := by decide +kernel
theorem dX0_findCodes_127 : decode cX0_findCodes 127 = .ok (.iaload, 1) := by decide +kernel
theorem dX0_findCodes_128 : decode cX0_findCodes 128 = .ok (.iconst 1, 1) := by decide +kernel
theorem dX0_findCodes_129 : decode cX0_findCodes 129 = .ok (.iadd, 1) := by decide +kernel
theorem dX0_findCodes_130 : decode cX0_findCodes 130 = .ok (.iastore, 1) := by decide +kernel
theorem dX0_findCodes_131 : decode cX0_findCodes 131 = .ok (.aload_n 0, 1) := by decide +kernel
theorem dX0_findCodes_132 : decode cX0_findCodes 132 = .ok (.getfield 37, 3) := by decide +kernel
theorem dX0_findCodes_135 : decode cX0_findCodes 135 = .ok (.iload 6, 2) := by decide +kernel
theorem dX0_findCodes_137 : decode cX0_findCodes 137 = .ok (.iload 4, 2) := by decide +kernel
theorem dX0_findCodes_139 : decode cX0_findCodes 139 = .ok (.iastore, 1) := by decide +kernel
theorem dX0_findCodes_140 : decode cX0_findCodes 140 = .ok (.aload_n 0, 1) := by decide +kernel
theorem dX0_findCodes_141 : decode cX0_findCodes 141 = .ok (.getfield 40, 3) := by decide +kernel
theorem dX0_findCodes_144 : decode cX0_findCodes 144 = .ok (.iload 6, 2) := by decide +kernel
theorem dX0_findCodes_146 : decode cX0_findCodes 146 = .ok (.iload 5, 2) := by decide +kernel
theorem dX0_findCodes_148 : decode cX0_findCodes 148 = .ok (.iastore, 1) := by decide +kernel
theorem dX0_findCodes_149 : decode cX0_findCodes 149 = .ok (.aload_n 0, 1) := by decide +kernel
theorem dX0_findCodes_150 : decode cX0_findCodes 150 = .ok (.getfield 43, 3) := by decide +kernel
theorem dX0_findCodes_153 : decode cX0_findCodes 153 = .ok (.iload_n 2, 1) := by decide +kernel
theorem dX0_findCodes_154 : decode cX0_findCodes 154 = .ok (.iload 6, 2) := by decide +kernel
theorem dX0_findCodes_156 : decode cX0_findCodes 156 = .ok (.iastore, 1) := by decide +kernel
theorem dX0_findCodes_157 : decode cX0_findCodes 157 = .ok (.iinc 2 1, 3) := by decide +kernel
theorem dX0_findCodes_160 : decode cX0_findCodes 160 = .ok (.iinc 5 1, 3) := by decide +kernel
theorem dX0_findCodes_163 : decode cX0_findCodes 163 = .ok (.goto (-87), 3) := by decide +kernel
theorem dX0_findCodes_166 : decode cX0_findCodes 166 = .ok (.iinc 3 1, 3) := by decide +kernel
theorem dX0_findCodes_169 : decode cX0_findCodes 169 = .ok (.goto (-115), 3) := by decide +kernel
theorem dX0_findCodes_172 : decode cX0_findCodes 172 = .ok (.return_, 1) := by decide +kernel
theorem dX0_stepTo_0 : decode cX0_stepTo 0 = .ok (.iload_n 1, 1) := by decide +kernel
theorem dX0_stepTo_1 : decode cX0_stepTo 1 = .ok (.istore_n 3, 1) := by decide +kernel
theorem dX0_stepTo_2 : decode cX0_stepTo 2 = .ok (.aload_n 0, 1) := by decide +kernel
theorem dX0_stepTo_3 : decode cX0_stepTo 3 = .ok (.getfield 34, 3) := by decide +kernel
theorem dX0_stepTo_6 : decode cX0_stepTo 6 = .ok (.iload_n 1, 1) := by decide +kernel
theorem dX0_stepTo_7 : decode cX0_stepTo 7 = .ok (.iaload, 1) := by decide +kernel
theorem dX0_stepTo_8 : decode cX0_stepTo 8 = .ok (.iconst 1, 1) := by decide +kernel
theorem dX0_stepTo_9 : decode cX0_stepTo 9 = .ok (.isub, 1) := by decide +kernel
theorem dX0_stepTo_10 : decode cX0_stepTo 10 = .ok (.istore 4, 2) := by decide +kernel
theorem dX0_stepTo_12 : decode cX0_stepTo 12 = .ok (.iload 4, 2) := by decide +kernel
theorem dX0_stepTo_14 : decode cX0_stepTo 14 = .ok (.iload_n 2, 1) := by decide +kernel
theorem dX0_stepTo_15 : decode cX0_stepTo 15 = .ok (.if_icmp .le 16, 3) := by decide +kernel
theorem dX0_stepTo_18 : decode cX0_stepTo 18 = .ok (.aload_n 0, 1) := by decide +kernel
theorem dX0_stepTo_19 : decode cX0_stepTo 19 = .ok (.getfield 37, 3) := by decide +kernel
theorem dX0_stepTo_22 : decode cX0_stepTo 22 = .ok (.iload_n 3, 1) := by decide +kernel
theorem dX0_stepTo_23 : decode cX0_stepTo 23 = .ok (.iaload, 1) := by decide +kernel
theorem dX0_stepTo_24 : decode cX0_stepTo 24 = .ok (.istore_n 3, 1) := by decide +kernel
theorem dX0_stepTo_25 : decode cX0_stepTo 25 = .ok (.iinc 4 (-1), 3) := by decide +kernel
theorem dX0_stepTo_28 : decode cX0_stepTo 28 = .ok (.goto (-16), 3) := by decide +kernel
theorem dX0_stepTo_31 : decode cX0_stepTo 31 = .ok (.aload_n 0, 1) := by decide +kernel
theorem dX0_stepTo_32 : decode cX0_stepTo 32 = .ok (.getfield 40, 3) := by decide +kernel
theorem dX0_stepTo_35 : decode cX0_stepTo 35 = .ok (.iload_n 3, 1) := by decide +kernel
theorem dX0_stepTo_36 : decode cX0_stepTo 36 = .ok (.iaload, 1) := by decide +kernel
theorem dX0_stepTo_37 : decode cX0_stepTo 37 = .ok (.ireturn, 1) := by decide +kernel
theorem dX0_findEnds_0 : decode cX0_findEnds 0 = .ok (.aload_n 0, 1) := by decide +kernel
theorem dX0_findEnds_1 : decode cX0_findEnds 1 = .ok (.aload_n 1, 1) := by decide +kernel
theorem dX0_findEnds_2 : decode cX0_findEnds 2 = .ok (.aload_n 1, 1) := by decide +kernel
theorem dX0_findEnds_3 : decode cX0_findEnds 3 = .ok (.getfield 84, 3) := by decide +kernel
theorem dX0_findEnds_6 : decode cX0_findEnds 6 = .ok (.invokevirtual 87, 3) := by decide +kernel
theorem dX0_findEnds_9 : decode cX0_findEnds 9 = .ok (.aload_n 0, 1) := by decide +kernel
theorem dX0_findEnds_10 : decode cX0_findEnds 10 = .ok (.getfield 46, 3) := by decide +kernel
theorem dX0_findEnds_13 : decode cX0_findEnds 13 = .ok (.iconst 0, 1) := by decide +kernel
theorem dX0_findEnds_14 : decode cX0_findEnds 14 = .ok (.aload_n 1, 1) := by decide +kernel
theorem dX0_findEnds_15 : decode cX0_findEnds 15 = .ok (.getfield 92, 3) := by decide +kernel
theorem dX0_findEnds_18 : decode cX0_findEnds 18 = .ok (.iastore, 1) := by decide +kernel
theorem dX0_findEnds_19 : decode cX0_findEnds 19 = .ok (.iconst 0, 1) := by decide +kernel
theorem dX0_findEnds_20 : decode cX0_findEnds 20 = .ok (.istore_n 2, 1) := by decide +kernel
theorem dX0_findEnds_21 : decode cX0_findEnds 21 = .ok (.iload_n 2, 1) := by decide +kernel
theorem dX0_findEnds_22 : decode cX0_findEnds 22 = .ok (.aload_n 0, 1) := by decide +kernel
theorem dX0_findEnds_23 : decode cX0_findEnds 23 = .ok (.getfield 9, 3) := by decide +kernel
theorem dX0_findEnds_26 : decode cX0_findEnds 26 = .ok (.if_icmp .ge 45, 3) := by decide +kernel
theorem dX0_findEnds_29 : decode cX0_findEnds 29 = .ok (.iconst 0, 1) := by decide +kernel
theorem dX0_findEnds_30 : decode cX0_findEnds 30 = .ok (.istore_n 3, 1) := by decide +kernel
theorem dX0_findEnds_31 : decode cX0_findEnds 31 = .ok (.iload_n 3, 1) := by decide +kernel
theorem dX0_findEnds_32 : decode cX0_findEnds 32 = .ok (.iconst 1, 1) := by decide +kernel
theorem dX0_findEnds_33 : decode cX0_findEnds 33 = .ok (.iload_n 2, 1) := by decide +kernel
theorem dX0_findEnds_34 : decode cX0_findEnds 34 = .ok (.ishl, 1) := by decide +kernel
theorem dX0_findEnds_35 : decode cX0_findEnds 35 = .ok (.if_icmp .ge 30, 3) := by decide +kernel
theorem dX0_findEnds_38 : decode cX0_findEnds 38 = .ok (.aload_n 0, 1) := by decide +kernel
theorem dX0_findEnds_39 : decode cX0_findEnds 39 = .ok (.getfield 46, 3) := by decide +kernel
theorem dX0_findEnds_42 : decode cX0_findEnds 42 = .ok (.iload_n 3, 1) := by decide +kernel
theorem dX0_findEnds_43 : decode cX0_findEnds 43 = .ok (.iconst 1, 1) := by decide +kernel
theorem dX0_findEnds_44 : decode cX0_findEnds 44 = .ok (.iload_n 2, 1) := by decide +kernel
theorem dX0_findEnds_45 : decode cX0_findEnds 45 = .ok (.ishl, 1) := by decide +kernel
theorem dX0_findEnds_46 : decode cX0_findEnds 46 = .ok (.ior, 1) := by decide +kernel
theorem dX0_findEnds_47 : decode cX0_findEnds 47 = .ok (.aload_n 0, 1) := by decide +kernel
theorem dX0_findEnds_48 : decode cX0_findEnds 48 = .ok (.iload_n 2, 1) := by decide +kernel
theorem dX0_findEnds_49 : decode cX0_findEnds 49 = .ok (.aload_n 0, 1) := by decide +kernel
theorem dX0_findEnds_50 : decode cX0_findEnds 50 = .ok (.getfield 46, 3) := by decide +kernel
theorem dX0_findEnds_53 : decode cX0_findEnds 53 = .ok (.iload_n 3, 1) := by decide +kernel
theorem dX0_findEnds_54 : decode cX0_findEnds 54 = .ok (.iaload, 1) := by decide +kernel
theorem dX0_findEnds_55 : decode cX0_findEnds 55 = .ok (.invokevirtual 109, 3) := by decide +kernel
theorem dX0_findEnds_58 : decode cX0_findEnds 58 = .ok (.iastore, 1) := by decide +kernel
theorem dX0_findEnds_59 : decode cX0_findEnds 59 = .ok (.iinc 3 1, 3) := by decide +kernel
theorem dX0_findEnds_62 : decode cX0_findEnds 62 = .ok (.goto (-31), 3) := by decide +kernel
theorem dX0_findEnds_65 : decode cX0_findEnds 65 = .ok (.iinc 2 1, 3) := by decide +kernel
theorem dX0_findEnds_68 : decode cX0_findEnds 68 = .ok (.goto (-47), 3) := by decide +kernel
theorem dX0_findEnds_71 : decode cX0_findEnds 71 = .ok (.return_, 1) := by decide +kernel
theorem dX0_howManyEndAt_0 : decode cX0_howManyEndAt 0 = .ok (.iconst 0, 1) := by decide +kernel
theorem dX0_howManyEndAt_1 : decode cX0_howManyEndAt 1 = .ok (.istore_n 2, 1) := by decide +kernel
theorem dX0_howManyEndAt_2 : decode cX0_howManyEndAt 2 = .ok (.iconst 0, 1) := by decide +kernel
theorem dX0_howManyEndAt_3 : decode cX0_howManyEndAt 3 = .ok (.istore_n 3, 1) := by decide +kernel
theorem dX0_howManyEndAt_4 : decode cX0_howManyEndAt 4 = .ok (.iload_n 3, 1) := by decide +kernel
theorem dX0_howManyEndAt_5 : decode cX0_howManyEndAt 5 = .ok (.iconst 1, 1) := by decide +kernel
theorem dX0_howManyEndAt_6 : decode cX0_howManyEndAt 6 = .ok (.aload_n 0, 1) := by decide +kernel
theorem dX0_howManyEndAt_7 : decode cX0_howManyEndAt 7 = .ok (.getfield 9, 3) := by decide +kernel
theorem dX0_howManyEndAt_10 : decode cX0_howManyEndAt 10 = .ok (.ishl, 1) := by decide +kernel
theorem dX0_howManyEndAt_11 : decode cX0_howManyEndAt 11 = .ok (.if_icmp .ge 22, 3) := by decide +kernel
theorem dX0_howManyEndAt_14 : decode cX0_howManyEndAt 14 = .ok (.aload_n 0, 1) := by decide +kernel
theorem dX0_howManyEndAt_15 : decode cX0_howManyEndAt 15 = .ok (.getfield 46, 3) := by decide +kernel
theorem dX0_howManyEndAt_18 : decode cX0_howManyEndAt 18 = .ok (.iload_n 3, 1) := by decide +kernel
theorem dX0_howManyEndAt_19 : decode cX0_howManyEndAt 19 = .ok (.iaload, 1) := by decide +kernel
theorem dX0_howManyEndAt_20 : decode cX0_howManyEndAt 20 = .ok (.iload_n 1, 1) := by decide +kernel
theorem dX0_howManyEndAt_21 : decode cX0_howManyEndAt 21 = .ok (.if_icmp .ne 6, 3) := by decide +kernel
theorem dX0_howManyEndAt_24 : decode cX0_howManyEndAt 24 = .ok (.iinc 2 1, 3) := by decide +kernel
theorem dX0_howManyEndAt_27 : decode cX0_howManyEndAt 27 = .ok (.iinc 3 1, 3) := by decide +kernel
theorem dX0_howManyEndAt_30 : decode cX0_howManyEndAt 30 = .ok (.goto (-26), 3) := by decide +kernel
theorem dX0_howManyEndAt_33 : decode cX0_howManyEndAt 33 = .ok (.iload_n 2, 1) := by decide +kernel
theorem dX0_howManyEndAt_34 : decode cX0_howManyEndAt 34 = .ok (.ireturn, 1) := by decide +kernel
theorem dX0_leastThatEndsAt_0 : decode cX0_leastThatEndsAt 0 = .ok (.iconst 0, 1) := by decide +kernel
theorem dX0_leastThatEndsAt_1 : decode cX0_leastThatEndsAt 1 = .ok (.istore_n 2, 1) := by decide +kernel
theorem dX0_leastThatEndsAt_2 : decode cX0_leastThatEndsAt 2 = .ok (.iload_n 2, 1) := by decide +kernel
theorem dX0_leastThatEndsAt_3 : decode cX0_leastThatEndsAt 3 = .ok (.iconst 1, 1) := by decide +kernel
theorem dX0_leastThatEndsAt_4 : decode cX0_leastThatEndsAt 4 = .ok (.aload_n 0, 1) := by decide +kernel
theorem dX0_leastThatEndsAt_5 : decode cX0_leastThatEndsAt 5 = .ok (.getfield 9, 3) := by decide +kernel
theorem dX0_leastThatEndsAt_8 : decode cX0_leastThatEndsAt 8 = .ok (.ishl, 1) := by decide +kernel
theorem dX0_leastThatEndsAt_9 : decode cX0_leastThatEndsAt 9 = .ok (.if_icmp .ge 21, 3) := by decide +kernel
theorem dX0_leastThatEndsAt_12 : decode cX0_leastThatEndsAt 12 = .ok (.aload_n 0, 1) := by decide +kernel
theorem dX0_leastThatEndsAt_13 : decode cX0_leastThatEndsAt 13 = .ok (.getfield 46, 3) := by decide +kernel
theorem dX0_leastThatEndsAt_16 : decode cX0_leastThatEndsAt 16 = .ok (.iload_n 2, 1) := by decide +kernel
theorem dX0_leastThatEndsAt_17 : decode cX0_leastThatEndsAt 17 = .ok (.iaload, 1) := by decide +kernel
theorem dX0_leastThatEndsAt_18 : decode cX0_leastThatEndsAt 18 = .ok (.iload_n 1, 1) := by decide +kernel
theorem dX0_leastThatEndsAt_19 : decode cX0_leastThatEndsAt 19 = .ok (.if_icmp .ne 5, 3) := by decide +kernel
theorem dX0_leastThatEndsAt_22 : decode cX0_leastThatEndsAt 22 = .ok (.iload_n 2, 1) := by decide +kernel
theorem dX0_leastThatEndsAt_23 : decode cX0_leastThatEndsAt 23 = .ok (.ireturn, 1) := by decide +kernel
theorem dX0_leastThatEndsAt_24 : decode cX0_leastThatEndsAt 24 = .ok (.iinc 2 1, 3) := by decide +kernel
theorem dX0_leastThatEndsAt_27 : decode cX0_leastThatEndsAt 27 = .ok (.goto (-25), 3) := by decide +kernel
theorem dX0_leastThatEndsAt_30 : decode cX0_leastThatEndsAt 30 = .ok (.iconst (-1), 1) := by decide +kernel
theorem dX0_leastThatEndsAt_31 : decode cX0_leastThatEndsAt 31 = .ok (.ireturn, 1) := by decide +kernel
theorem dX0_thatRing_0 : decode cX0_thatRing 0 = .ok (.iconst 0, 1) := by decide +kernel
theorem dX0_thatRing_1 : decode cX0_thatRing 1 = .ok (.istore_n 2, 1) := by decide +kernel
theorem dX0_thatRing_2 : decode cX0_thatRing 2 = .ok (.iconst 0, 1) := by decide +kernel
theorem dX0_thatRing_3 : decode cX0_thatRing 3 = .ok (.istore_n 3, 1) := by decide +kernel
theorem dX0_thatRing_4 : decode cX0_thatRing 4 = .ok (.iload_n 3, 1) := by decide +kernel
theorem dX0_thatRing_5 : decode cX0_thatRing 5 = .ok (.aload_n 0, 1) := by decide +kernel
theorem dX0_thatRing_6 : decode cX0_thatRing 6 = .ok (.getfield 9, 3) := by decide +kernel
theorem dX0_thatRing_9 : decode cX0_thatRing 9 = .ok (.if_icmp .ge 25, 3) := by decide +kernel
theorem dX0_thatRing_12 : decode cX0_thatRing 12 = .ok (.aload_n 0, 1) := by decide +kernel
theorem dX0_thatRing_13 : decode cX0_thatRing 13 = .ok (.getfield 22, 3) := by decide +kernel
theorem dX0_thatRing_16 : decode cX0_thatRing 16 = .ok (.iload_n 3, 1) := by decide +kernel
theorem dX0_thatRing_17 : decode cX0_thatRing 17 = .ok (.iaload, 1) := by decide +kernel
theorem dX0_thatRing_18 : decode cX0_thatRing 18 = .ok (.iload_n 1, 1) := by decide +kernel
theorem dX0_thatRing_19 : decode cX0_thatRing 19 = .ok (.if_icmp .ne 9, 3) := by decide +kernel
theorem dX0_thatRing_22 : decode cX0_thatRing 22 = .ok (.iload_n 2, 1) := by decide +kernel
theorem dX0_thatRing_23 : decode cX0_thatRing 23 = .ok (.iconst 1, 1) := by decide +kernel
theorem dX0_thatRing_24 : decode cX0_thatRing 24 = .ok (.iload_n 3, 1) := by decide +kernel
theorem dX0_thatRing_25 : decode cX0_thatRing 25 = .ok (.ishl, 1) := by decide +kernel
theorem dX0_thatRing_26 : decode cX0_thatRing 26 = .ok (.ior, 1) := by decide +kernel
theorem dX0_thatRing_27 : decode cX0_thatRing 27 = .ok (.istore_n 2, 1) := by decide +kernel
theorem dX0_thatRing_28 : decode cX0_thatRing 28 = .ok (.iinc 3 1, 3) := by decide +kernel
theorem dX0_thatRing_31 : decode cX0_thatRing 31 = .ok (.goto (-27), 3) := by decide +kernel
theorem dX0_thatRing_34 : decode cX0_thatRing 34 = .ok (.iload_n 2, 1) := by decide +kernel
theorem dX0_thatRing_35 : decode cX0_thatRing 35 = .ok (.ireturn, 1) := by decide +kernel
theorem dX0_fewestCuts_0 : decode cX0_fewestCuts 0 = .ok (.iconst (-1), 1) := by decide +kernel
theorem dX0_fewestCuts_1 : decode cX0_fewestCuts 1 = .ok (.istore_n 3, 1) := by decide +kernel
theorem dX0_fewestCuts_2 : decode cX0_fewestCuts 2 = .ok (.bipush 6, 2) := by decide +kernel
theorem dX0_fewestCuts_4 : decode cX0_fewestCuts 4 = .ok (.istore 4, 2) := by decide +kernel
theorem dX0_fewestCuts_6 : decode cX0_fewestCuts 6 = .ok (.iconst 0, 1) := by decide +kernel
theorem dX0_fewestCuts_7 : decode cX0_fewestCuts 7 = .ok (.istore 5, 2) := by decide +kernel
theorem dX0_fewestCuts_9 : decode cX0_fewestCuts 9 = .ok (.iload 5, 2) := by decide +kernel
theorem dX0_fewestCuts_11 : decode cX0_fewestCuts 11 = .ok (.iconst 1, 1) := by decide +kernel
theorem dX0_fewestCuts_12 : decode cX0_fewestCuts 12 = .ok (.aload_n 1, 1) := by decide +kernel
theorem dX0_fewestCuts_13 : decode cX0_fewestCuts 13 = .ok (.getfield 117, 3) := by decide +kernel
theorem dX0_fewestCuts_16 : decode cX0_fewestCuts 16 = .ok (.ishl, 1) := by decide +kernel
theorem dX0_fewestCuts_17 : decode cX0_fewestCuts 17 = .ok (.if_icmp .ge 80, 3) := by decide +kernel
theorem dX0_fewestCuts_20 : decode cX0_fewestCuts 20 = .ok (.iload 5, 2) := by decide +kernel
theorem dX0_fewestCuts_22 : decode cX0_fewestCuts 22 = .ok (.aload_n 1, 1) := by decide +kernel
theorem dX0_fewestCuts_23 : decode cX0_fewestCuts 23 = .ok (.getfield 84, 3) := by decide +kernel
theorem dX0_fewestCuts_26 : decode cX0_fewestCuts 26 = .ok (.iconst (-1), 1) := by decide +kernel
theorem dX0_fewestCuts_27 : decode cX0_fewestCuts 27 = .ok (.ixor, 1) := by decide +kernel
theorem dX0_fewestCuts_28 : decode cX0_fewestCuts 28 = .ok (.iand, 1) := by decide +kernel
theorem dX0_fewestCuts_29 : decode cX0_fewestCuts 29 = .ok (.ifCond .ne 62, 3) := by decide +kernel
theorem dX0_fewestCuts_32 : decode cX0_fewestCuts 32 = .ok (.iload 5, 2) := by decide +kernel
theorem dX0_fewestCuts_34 : decode cX0_fewestCuts 34 = .ok (.invokestatic 120, 3) := by decide +kernel
theorem dX0_fewestCuts_37 : decode cX0_fewestCuts 37 = .ok (.iload 4, 2) := by decide +kernel
theorem dX0_fewestCuts_39 : decode cX0_fewestCuts 39 = .ok (.if_icmp .lt 6, 3) := by decide +kernel
theorem dX0_fewestCuts_42 : decode cX0_fewestCuts 42 = .ok (.goto 49, 3) := by decide +kernel
theorem dX0_fewestCuts_45 : decode cX0_fewestCuts 45 = .ok (.aload_n 0, 1) := by decide +kernel
theorem dX0_fewestCuts_46 : decode cX0_fewestCuts 46 = .ok (.aload_n 1, 1) := by decide +kernel
theorem dX0_fewestCuts_47 : decode cX0_fewestCuts 47 = .ok (.aload_n 1, 1) := by decide +kernel
theorem dX0_fewestCuts_48 : decode cX0_fewestCuts 48 = .ok (.getfield 84, 3) := by decide +kernel
theorem dX0_fewestCuts_51 : decode cX0_fewestCuts 51 = .ok (.iload 5, 2) := by decide +kernel
theorem dX0_fewestCuts_53 : decode cX0_fewestCuts 53 = .ok (.iconst (-1), 1) := by decide +kernel
theorem dX0_fewestCuts_54 : decode cX0_fewestCuts 54 = .ok (.ixor, 1) := by decide +kernel
theorem dX0_fewestCuts_55 : decode cX0_fewestCuts 55 = .ok (.iand, 1) := by decide +kernel
theorem dX0_fewestCuts_56 : decode cX0_fewestCuts 56 = .ok (.invokevirtual 87, 3) := by decide +kernel
theorem dX0_fewestCuts_59 : decode cX0_fewestCuts 59 = .ok (.aload_n 0, 1) := by decide +kernel
theorem dX0_fewestCuts_60 : decode cX0_fewestCuts 60 = .ok (.iload_n 2, 1) := by decide +kernel
theorem dX0_fewestCuts_61 : decode cX0_fewestCuts 61 = .ok (.aload_n 1, 1) := by decide +kernel
theorem dX0_fewestCuts_62 : decode cX0_fewestCuts 62 = .ok (.getfield 92, 3) := by decide +kernel
theorem dX0_fewestCuts_65 : decode cX0_fewestCuts 65 = .ok (.iconst (-1), 1) := by decide +kernel
theorem dX0_fewestCuts_66 : decode cX0_fewestCuts 66 = .ok (.ixor, 1) := by decide +kernel
theorem dX0_fewestCuts_67 : decode cX0_fewestCuts 67 = .ok (.iand, 1) := by decide +kernel
theorem dX0_fewestCuts_68 : decode cX0_fewestCuts 68 = .ok (.aload_n 1, 1) := by decide +kernel
theorem dX0_fewestCuts_69 : decode cX0_fewestCuts 69 = .ok (.getfield 92, 3) := by decide +kernel
theorem dX0_fewestCuts_72 : decode cX0_fewestCuts 72 = .ok (.invokevirtual 125, 3) := by decide +kernel
theorem dX0_fewestCuts_75 : decode cX0_fewestCuts 75 = .ok (.ifCond .eq 6, 3) := by decide +kernel
theorem dX0_fewestCuts_78 : decode cX0_fewestCuts 78 = .ok (.goto 13, 3) := by decide +kernel
theorem dX0_fewestCuts_81 : decode cX0_fewestCuts 81 = .ok (.iload 5, 2) := by decide +kernel
theorem dX0_fewestCuts_83 : decode cX0_fewestCuts 83 = .ok (.istore_n 3, 1) := by decide +kernel
theorem dX0_fewestCuts_84 : decode cX0_fewestCuts 84 = .ok (.iload 5, 2) := by decide +kernel
theorem dX0_fewestCuts_86 : decode cX0_fewestCuts 86 = .ok (.invokestatic 120, 3) := by decide +kernel
theorem dX0_fewestCuts_89 : decode cX0_fewestCuts 89 = .ok (.istore 4, 2) := by decide +kernel
theorem dX0_fewestCuts_91 : decode cX0_fewestCuts 91 = .ok (.iinc 5 1, 3) := by decide +kernel
theorem dX0_fewestCuts_94 : decode cX0_fewestCuts 94 = .ok (.goto (-85), 3) := by decide +kernel
theorem dX0_fewestCuts_97 : decode cX0_fewestCuts 97 = .ok (.iload_n 3, 1) := by decide +kernel
theorem dX0_fewestCuts_98 : decode cX0_fewestCuts 98 = .ok (.ireturn, 1) := by decide +kernel
theorem dX0_anyOpens_0 : decode cX0_anyOpens 0 = .ok (.iconst 0, 1) := by decide +kernel
theorem dX0_anyOpens_1 : decode cX0_anyOpens 1 = .ok (.istore_n 3, 1) := by decide +kernel
theorem dX0_anyOpens_2 : decode cX0_anyOpens 2 = .ok (.iload_n 3, 1) := by decide +kernel
theorem dX0_anyOpens_3 : decode cX0_anyOpens 3 = .ok (.aload_n 0, 1) := by decide +kernel
theorem dX0_anyOpens_4 : decode cX0_anyOpens 4 = .ok (.getfield 9, 3) := by decide +kernel
theorem dX0_anyOpens_7 : decode cX0_anyOpens 7 = .ok (.if_icmp .ge 22, 3) := by decide +kernel
theorem dX0_anyOpens_10 : decode cX0_anyOpens 10 = .ok (.aload_n 0, 1) := by decide +kernel
theorem dX0_anyOpens_11 : decode cX0_anyOpens 11 = .ok (.iload_n 3, 1) := by decide +kernel
theorem dX0_anyOpens_12 : decode cX0_anyOpens 12 = .ok (.iload_n 2, 1) := by decide +kernel
theorem dX0_anyOpens_13 : decode cX0_anyOpens 13 = .ok (.invokevirtual 109, 3) := by decide +kernel
theorem dX0_anyOpens_16 : decode cX0_anyOpens 16 = .ok (.iload_n 1, 1) := by decide +kernel
theorem dX0_anyOpens_17 : decode cX0_anyOpens 17 = .ok (.iand, 1) := by decide +kernel
theorem dX0_anyOpens_18 : decode cX0_anyOpens 18 = .ok (.ifCond .eq 5, 3) := by decide +kernel
theorem dX0_anyOpens_21 : decode cX0_anyOpens 21 = .ok (.iconst 1, 1) := by decide +kernel
theorem dX0_anyOpens_22 : decode cX0_anyOpens 22 = .ok (.ireturn, 1) := by decide +kernel
theorem dX0_anyOpens_23 : decode cX0_anyOpens 23 = .ok (.iinc 3 1, 3) := by decide +kernel
theorem dX0_anyOpens_26 : decode cX0_anyOpens 26 = .ok (.goto (-24), 3) := by decide +kernel
theorem dX0_anyOpens_29 : decode cX0_anyOpens 29 = .ok (.iconst 0, 1) := by decide +kernel
theorem dX0_anyOpens_30 : decode cX0_anyOpens 30 = .ok (.ireturn, 1) := by decide +kernel
theorem dX0_findHarmOfRopes_0 : decode cX0_findHarmOfRopes 0 = .ok (.iconst 0, 1) := by decide +kernel
theorem dX0_findHarmOfRopes_1 : decode cX0_findHarmOfRopes 1 = .ok (.istore_n 2, 1) := by decide +kernel
theorem dX0_findHarmOfRopes_2 : decode cX0_findHarmOfRopes 2 = .ok (.iload_n 2, 1) := by decide +kernel
theorem dX0_findHarmOfRopes_3 : decode cX0_findHarmOfRopes 3 = .ok (.iconst 1, 1) := by decide +kernel
theorem dX0_findHarmOfRopes_4 : decode cX0_findHarmOfRopes 4 = .ok (.aload_n 1, 1) := by decide +kernel
theorem dX0_findHarmOfRopes_5 : decode cX0_findHarmOfRopes 5 = .ok (.getfield 117, 3) := by decide +kernel
theorem dX0_findHarmOfRopes_8 : decode cX0_findHarmOfRopes 8 = .ok (.ishl, 1) := by decide +kernel
theorem dX0_findHarmOfRopes_9 : decode cX0_findHarmOfRopes 9 = .ok (.if_icmp .ge 56, 3) := by decide +kernel
theorem dX0_findHarmOfRopes_12 : decode cX0_findHarmOfRopes 12 = .ok (.aload_n 0, 1) := by decide +kernel
theorem dX0_findHarmOfRopes_13 : decode cX0_findHarmOfRopes 13 = .ok (.aload_n 1, 1) := by decide +kernel
theorem dX0_findHarmOfRopes_14 : decode cX0_findHarmOfRopes 14 = .ok (.iload_n 2, 1) := by decide +kernel
theorem dX0_findHarmOfRopes_15 : decode cX0_findHarmOfRopes 15 = .ok (.invokevirtual 87, 3) := by decide +kernel
theorem dX0_findHarmOfRopes_18 : decode cX0_findHarmOfRopes 18 = .ok (.iconst 0, 1) := by decide +kernel
theorem dX0_findHarmOfRopes_19 : decode cX0_findHarmOfRopes 19 = .ok (.istore_n 3, 1) := by decide +kernel
theorem dX0_findHarmOfRopes_20 : decode cX0_findHarmOfRopes 20 = .ok (.iconst 0, 1) := by decide +kernel
theorem dX0_findHarmOfRopes_21 : decode cX0_findHarmOfRopes 21 = .ok (.istore 4, 2) := by decide +kernel
theorem dX0_findHarmOfRopes_23 : decode cX0_findHarmOfRopes 23 = .ok (.iload 4, 2) := by decide +kernel
theorem dX0_findHarmOfRopes_25 : decode cX0_findHarmOfRopes 25 = .ok (.aload_n 0, 1) := by decide +kernel
theorem dX0_findHarmOfRopes_26 : decode cX0_findHarmOfRopes 26 = .ok (.getfield 9, 3) := by decide +kernel
theorem dX0_findHarmOfRopes_29 : decode cX0_findHarmOfRopes 29 = .ok (.if_icmp .ge 23, 3) := by decide +kernel
theorem dX0_findHarmOfRopes_32 : decode cX0_findHarmOfRopes 32 = .ok (.iload_n 3, 1) := by decide +kernel
theorem dX0_findHarmOfRopes_33 : decode cX0_findHarmOfRopes 33 = .ok (.aload_n 1, 1) := by decide +kernel
theorem dX0_findHarmOfRopes_34 : decode cX0_findHarmOfRopes 34 = .ok (.aload_n 0, 1) := by decide +kernel
theorem dX0_findHarmOfRopes_35 : decode cX0_findHarmOfRopes 35 = .ok (.iload 4, 2) := by decide +kernel
theorem dX0_findHarmOfRopes_37 : decode cX0_findHarmOfRopes 37 = .ok (.iconst 0, 1) := by decide +kernel
theorem dX0_findHarmOfRopes_38 : decode cX0_findHarmOfRopes 38 = .ok (.invokevirtual 109, 3) := by decide +kernel
theorem dX0_findHarmOfRopes_41 : decode cX0_findHarmOfRopes 41 = .ok (.invokevirtual 113, 3) := by decide +kernel
theorem dX0_findHarmOfRopes_44 : decode cX0_findHarmOfRopes 44 = .ok (.iadd, 1) := by decide +kernel
theorem dX0_findHarmOfRopes_45 : decode cX0_findHarmOfRopes 45 = .ok (.istore_n 3, 1) := by decide +kernel
theorem dX0_findHarmOfRopes_46 : decode cX0_findHarmOfRopes 46 = .ok (.iinc 4 1, 3) := by decide +kernel
theorem dX0_findHarmOfRopes_49 : decode cX0_findHarmOfRopes 49 = .ok (.goto (-26), 3) := by decide +kernel
theorem dX0_findHarmOfRopes_52 : decode cX0_findHarmOfRopes 52 = .ok (.aload_n 0, 1) := by decide +kernel
theorem dX0_findHarmOfRopes_53 : decode cX0_findHarmOfRopes 53 = .ok (.getfield 55, 3) := by decide +kernel
theorem dX0_findHarmOfRopes_56 : decode cX0_findHarmOfRopes 56 = .ok (.iload_n 2, 1) := by decide +kernel
theorem dX0_findHarmOfRopes_57 : decode cX0_findHarmOfRopes 57 = .ok (.iload_n 3, 1) := by decide +kernel
theorem dX0_findHarmOfRopes_58 : decode cX0_findHarmOfRopes 58 = .ok (.iastore, 1) := by decide +kernel
theorem dX0_findHarmOfRopes_59 : decode cX0_findHarmOfRopes 59 = .ok (.iinc 2 1, 3) := by decide +kernel
theorem dX0_findHarmOfRopes_62 : decode cX0_findHarmOfRopes 62 = .ok (.goto (-60), 3) := by decide +kernel
theorem dX0_findHarmOfRopes_65 : decode cX0_findHarmOfRopes 65 = .ok (.return_, 1) := by decide +kernel
theorem dX0_weighShare_0 : decode cX0_weighShare 0 = .ok (.aload_n 0, 1) := by decide +kernel
theorem dX0_weighShare_1 : decode cX0_weighShare 1 = .ok (.iconst 0, 1) := by decide +kernel
theorem dX0_weighShare_2 : decode cX0_weighShare 2 = .ok (.putfield 49, 3) := by decide +kernel
theorem dX0_weighShare_5 : decode cX0_weighShare 5 = .ok (.aload_n 0, 1) := by decide +kernel
theorem dX0_weighShare_6 : decode cX0_weighShare 6 = .ok (.getstatic 128, 3) := by decide +kernel
theorem dX0_weighShare_9 : decode cX0_weighShare 9 = .ok (.iload_n 1, 1) := by decide +kernel
theorem dX0_weighShare_10 : decode cX0_weighShare 10 = .ok (.iaload, 1) := by decide +kernel
theorem dX0_weighShare_11 : decode cX0_weighShare 11 = .ok (.putfield 52, 3) := by decide +kernel
theorem dX0_weighShare_14 : decode cX0_weighShare 14 = .ok (.iconst 0, 1) := by decide +kernel
theorem dX0_weighShare_15 : decode cX0_weighShare 15 = .ok (.istore_n 3, 1) := by decide +kernel
theorem dX0_weighShare_16 : decode cX0_weighShare 16 = .ok (.iload_n 3, 1) := by decide +kernel
theorem dX0_weighShare_17 : decode cX0_weighShare 17 = .ok (.iconst 1, 1) := by decide +kernel
theorem dX0_weighShare_18 : decode cX0_weighShare 18 = .ok (.iload_n 1, 1) := by decide +kernel
theorem dX0_weighShare_19 : decode cX0_weighShare 19 = .ok (.ishl, 1) := by decide +kernel
theorem dX0_weighShare_20 : decode cX0_weighShare 20 = .ok (.if_icmp .ge 74, 3) := by decide +kernel
theorem dX0_weighShare_23 : decode cX0_weighShare 23 = .ok (.iload_n 3, 1) := by decide +kernel
theorem dX0_weighShare_24 : decode cX0_weighShare 24 = .ok (.iload_n 2, 1) := by decide +kernel
theorem dX0_weighShare_25 : decode cX0_weighShare 25 = .ok (.invokestatic 105, 3) := by decide +kernel
theorem dX0_weighShare_28 : decode cX0_weighShare 28 = .ok (.ifCond .eq 6, 3) := by decide +kernel
theorem dX0_weighShare_31 : decode cX0_weighShare 31 = .ok (.goto 57, 3) := by decide +kernel
theorem dX0_weighShare_34 : decode cX0_weighShare 34 = .ok (.iload_n 3, 1) := by decide +kernel
theorem dX0_weighShare_35 : decode cX0_weighShare 35 = .ok (.invokestatic 120, 3) := by decide +kernel
theorem dX0_weighShare_38 : decode cX0_weighShare 38 = .ok (.istore 4, 2) := by decide +kernel
theorem dX0_weighShare_40 : decode cX0_weighShare 40 = .ok (.getstatic 128, 3) := by decide +kernel
theorem dX0_weighShare_43 : decode cX0_weighShare 43 = .ok (.iload 4, 2) := by decide +kernel
theorem dX0_weighShare_45 : decode cX0_weighShare 45 = .ok (.iaload, 1) := by decide +kernel
theorem dX0_weighShare_46 : decode cX0_weighShare 46 = .ok (.getstatic 128, 3) := by decide +kernel
theorem dX0_weighShare_49 : decode cX0_weighShare 49 = .ok (.iload_n 1, 1) := by decide +kernel
theorem dX0_weighShare_50 : decode cX0_weighShare 50 = .ok (.iconst 1, 1) := by decide +kernel
theorem dX0_weighShare_51 : decode cX0_weighShare 51 = .ok (.isub, 1) := by decide +kernel
theorem dX0_weighShare_52 : decode cX0_weighShare 52 = .ok (.iload 4, 2) := by decide +kernel
theorem dX0_weighShare_54 : decode cX0_weighShare 54 = .ok (.isub, 1) := by decide +kernel
theorem dX0_weighShare_55 : decode cX0_weighShare 55 = .ok (.iaload, 1) := by decide +kernel
theorem dX0_weighShare_56 : decode cX0_weighShare 56 = .ok (.imul, 1) := by decide +kernel
theorem dX0_weighShare_57 : decode cX0_weighShare 57 = .ok (.istore 5, 2) := by decide +kernel
theorem dX0_weighShare_59 : decode cX0_weighShare 59 = .ok (.aload_n 0, 1) := by decide +kernel
theorem dX0_weighShare_60 : decode cX0_weighShare 60 = .ok (.dup, 1) := by decide +kernel
theorem dX0_weighShare_61 : decode cX0_weighShare 61 = .ok (.getfield 49, 3) := by decide +kernel
theorem dX0_weighShare_64 : decode cX0_weighShare 64 = .ok (.iload 5, 2) := by decide +kernel
theorem dX0_weighShare_66 : decode cX0_weighShare 66 = .ok (.aload_n 0, 1) := by decide +kernel
theorem dX0_weighShare_67 : decode cX0_weighShare 67 = .ok (.getfield 55, 3) := by decide +kernel
theorem dX0_weighShare_70 : decode cX0_weighShare 70 = .ok (.iload_n 3, 1) := by decide +kernel
theorem dX0_weighShare_71 : decode cX0_weighShare 71 = .ok (.iconst 1, 1) := by decide +kernel
theorem dX0_weighShare_72 : decode cX0_weighShare 72 = .ok (.iload_n 2, 1) := by decide +kernel
theorem dX0_weighShare_73 : decode cX0_weighShare 73 = .ok (.ishl, 1) := by decide +kernel
theorem dX0_weighShare_74 : decode cX0_weighShare 74 = .ok (.ior, 1) := by decide +kernel
theorem dX0_weighShare_75 : decode cX0_weighShare 75 = .ok (.iaload, 1) := by decide +kernel
theorem dX0_weighShare_76 : decode cX0_weighShare 76 = .ok (.aload_n 0, 1) := by decide +kernel
theorem dX0_weighShare_77 : decode cX0_weighShare 77 = .ok (.getfield 55, 3) := by decide +kernel
theorem dX0_weighShare_80 : decode cX0_weighShare 80 = .ok (.iload_n 3, 1) := by decide +kernel
theorem dX0_weighShare_81 : decode cX0_weighShare 81 = .ok (.iaload, 1) := by decide +kernel
theorem dX0_weighShare_82 : decode cX0_weighShare 82 = .ok (.isub, 1) := by decide +kernel
theorem dX0_weighShare_83 : decode cX0_weighShare 83 = .ok (.imul, 1) := by decide +kernel
theorem dX0_weighShare_84 : decode cX0_weighShare 84 = .ok (.iadd, 1) := by decide +kernel
theorem dX0_weighShare_85 : decode cX0_weighShare 85 = .ok (.putfield 49, 3) := by decide +kernel
theorem dX0_weighShare_88 : decode cX0_weighShare 88 = .ok (.iinc 3 1, 3) := by decide +kernel
theorem dX0_weighShare_91 : decode cX0_weighShare 91 = .ok (.goto (-75), 3) := by decide +kernel
theorem dX0_weighShare_94 : decode cX0_weighShare 94 = .ok (.return_, 1) := by decide +kernel
theorem dX1_init_0 : decode cX1_init 0 = .ok (.aload_n 0, 1) := by decide +kernel
theorem dX1_init_1 : decode cX1_init 1 = .ok (.invokespecial 1, 3) := by decide +kernel
theorem dX1_init_4 : decode cX1_init 4 = .ok (.return_, 1) := by decide +kernel
theorem dX1_becomes_0 : decode cX1_becomes 0 = .ok (.iload_n 2, 1) := by decide +kernel
theorem dX1_becomes_1 : decode cX1_becomes 1 = .ok (.iload_n 3, 1) := by decide +kernel
theorem dX1_becomes_2 : decode cX1_becomes 2 = .ok (.if_icmp .lt 7, 3) := by decide +kernel
theorem dX1_becomes_5 : decode cX1_becomes 5 = .ok (.iconst 1, 1) := by decide +kernel
theorem dX1_becomes_6 : decode cX1_becomes 6 = .ok (.goto 4, 3) := by decide +kernel
theorem dX1_becomes_9 : decode cX1_becomes 9 = .ok (.iconst 0, 1) := by decide +kernel
theorem dX1_becomes_10 : decode cX1_becomes 10 = .ok (.ireturn, 1) := by decide +kernel
theorem dX2_init_0 : decode cX2_init 0 = .ok (.aload_n 0, 1) := by decide +kernel
theorem dX2_init_1 : decode cX2_init 1 = .ok (.invokespecial 1, 3) := by decide +kernel
theorem dX2_init_4 : decode cX2_init 4 = .ok (.aload_n 0, 1) := by decide +kernel
theorem dX2_init_5 : decode cX2_init 5 = .ok (.new 7, 3) := by decide +kernel
theorem dX2_init_8 : decode cX2_init 8 = .ok (.dup, 1) := by decide +kernel
theorem dX2_init_9 : decode cX2_init 9 = .ok (.invokespecial 9, 3) := by decide +kernel
theorem dX2_init_12 : decode cX2_init 12 = .ok (.putfield 10, 3) := by decide +kernel
theorem dX2_init_15 : decode cX2_init 15 = .ok (.aload_n 0, 1) := by decide +kernel
theorem dX2_init_16 : decode cX2_init 16 = .ok (.new 16, 3) := by decide +kernel
theorem dX2_init_19 : decode cX2_init 19 = .ok (.dup, 1) := by decide +kernel
theorem dX2_init_20 : decode cX2_init 20 = .ok (.invokespecial 18, 3) := by decide +kernel
theorem dX2_init_23 : decode cX2_init 23 = .ok (.putfield 19, 3) := by decide +kernel
theorem dX2_init_26 : decode cX2_init 26 = .ok (.aload_n 0, 1) := by decide +kernel
theorem dX2_init_27 : decode cX2_init 27 = .ok (.new 23, 3) := by decide +kernel
theorem dX2_init_30 : decode cX2_init 30 = .ok (.dup, 1) := by decide +kernel
theorem dX2_init_31 : decode cX2_init 31 = .ok (.invokespecial 25, 3) := by decide +kernel
theorem dX2_init_34 : decode cX2_init 34 = .ok (.putfield 26, 3) := by decide +kernel
theorem dX2_init_37 : decode cX2_init 37 = .ok (.aload_n 0, 1) := by decide +kernel
theorem dX2_init_38 : decode cX2_init 38 = .ok (.new 30, 3) := by decide +kernel
theorem dX2_init_41 : decode cX2_init 41 = .ok (.dup, 1) := by decide +kernel
theorem dX2_init_42 : decode cX2_init 42 = .ok (.invokespecial 32, 3) := by decide +kernel
theorem dX2_init_45 : decode cX2_init 45 = .ok (.putfield 33, 3) := by decide +kernel
theorem dX2_init_48 : decode cX2_init 48 = .ok (.aload_n 0, 1) := by decide +kernel
theorem dX2_init_49 : decode cX2_init 49 = .ok (.new 37, 3) := by decide +kernel
theorem dX2_init_52 : decode cX2_init 52 = .ok (.dup, 1) := by decide +kernel
theorem dX2_init_53 : decode cX2_init 53 = .ok (.invokespecial 39, 3) := by decide +kernel
theorem dX2_init_56 : decode cX2_init 56 = .ok (.putfield 40, 3) := by decide +kernel
theorem dX2_init_59 : decode cX2_init 59 = .ok (.return_, 1) := by decide +kernel
theorem dX2_ofNumber_0 : decode cX2_ofNumber 0 = .ok (.iload_n 1, 1) := by decide +kernel
theorem dX2_ofNumber_1 : decode cX2_ofNumber 1 = .ok (.tableswitch 51 1 4 #[31, 36, 41, 46], 31) := by decide +kernel
theorem dX2_ofNumber_32 : decode cX2_ofNumber 32 = .ok (.aload_n 0, 1) := by decide +kernel
theorem dX2_ofNumber_33 : decode cX2_ofNumber 33 = .ok (.getfield 19, 3) := by decide +kernel
theorem dX2_ofNumber_36 : decode cX2_ofNumber 36 = .ok (.areturn, 1) := by decide +kernel
theorem dX2_ofNumber_37 : decode cX2_ofNumber 37 = .ok (.aload_n 0, 1) := by decide +kernel
theorem dX2_ofNumber_38 : decode cX2_ofNumber 38 = .ok (.getfield 26, 3) := by decide +kernel
theorem dX2_ofNumber_41 : decode cX2_ofNumber 41 = .ok (.areturn, 1) := by decide +kernel
theorem dX2_ofNumber_42 : decode cX2_ofNumber 42 = .ok (.aload_n 0, 1) := by decide +kernel
theorem dX2_ofNumber_43 : decode cX2_ofNumber 43 = .ok (.getfield 33, 3) := by decide +kernel
theorem dX2_ofNumber_46 : decode cX2_ofNumber 46 = .ok (.areturn, 1) := by decide +kernel
theorem dX2_ofNumber_47 : decode cX2_ofNumber 47 = .ok (.aload_n 0, 1) := by decide +kernel
theorem dX2_ofNumber_48 : decode cX2_ofNumber 48 = .ok (.getfield 40, 3) := by decide +kernel
theorem dX2_ofNumber_51 : decode cX2_ofNumber 51 = .ok (.areturn, 1) := by decide +kernel
theorem dX2_ofNumber_52 : decode cX2_ofNumber 52 = .ok (.aload_n 0, 1) := by decide +kernel
theorem dX2_ofNumber_53 : decode cX2_ofNumber 53 = .ok (.getfield 10, 3) := by decide +kernel
theorem dX2_ofNumber_56 : decode cX2_ofNumber 56 = .ok (.areturn, 1) := by decide +kernel
theorem dX3_init_0 : decode cX3_init 0 = .ok (.aload_n 0, 1) := by decide +kernel
theorem dX3_init_1 : decode cX3_init 1 = .ok (.invokespecial 1, 3) := by decide +kernel
theorem dX3_init_4 : decode cX3_init 4 = .ok (.return_, 1) := by decide +kernel
theorem dX3_becomes_0 : decode cX3_becomes 0 = .ok (.iload_n 1, 1) := by decide +kernel
theorem dX3_becomes_1 : decode cX3_becomes 1 = .ok (.ifCond .ne 13, 3) := by decide +kernel
theorem dX3_becomes_4 : decode cX3_becomes 4 = .ok (.aload_n 0, 1) := by decide +kernel
theorem dX3_becomes_5 : decode cX3_becomes 5 = .ok (.iload_n 1, 1) := by decide +kernel
theorem dX3_becomes_6 : decode cX3_becomes 6 = .ok (.iload_n 2, 1) := by decide +kernel
theorem dX3_becomes_7 : decode cX3_becomes 7 = .ok (.iload_n 3, 1) := by decide +kernel
theorem dX3_becomes_8 : decode cX3_becomes 8 = .ok (.invokespecial 7, 3) := by decide +kernel
theorem dX3_becomes_11 : decode cX3_becomes 11 = .ok (.ifCond .eq 7, 3) := by decide +kernel
theorem dX3_becomes_14 : decode cX3_becomes 14 = .ok (.iconst 1, 1) := by decide +kernel
theorem dX3_becomes_15 : decode cX3_becomes 15 = .ok (.goto 4, 3) := by decide +kernel
theorem dX3_becomes_18 : decode cX3_becomes 18 = .ok (.iconst 0, 1) := by decide +kernel
theorem dX3_becomes_19 : decode cX3_becomes 19 = .ok (.ireturn, 1) := by decide +kernel
theorem dX4_init_0 : decode cX4_init 0 = .ok (.aload_n 0, 1) := by decide +kernel
theorem dX4_init_1 : decode cX4_init 1 = .ok (.invokespecial 1, 3) := by decide +kernel
theorem dX4_init_4 : decode cX4_init 4 = .ok (.return_, 1) := by decide +kernel
theorem dX4_becomes_0 : decode cX4_becomes 0 = .ok (.iload_n 1, 1) := by decide +kernel
theorem dX4_becomes_1 : decode cX4_becomes 1 = .ok (.ifCond .eq 17, 3) := by decide +kernel
theorem dX4_becomes_4 : decode cX4_becomes 4 = .ok (.aload_n 0, 1) := by decide +kernel
theorem dX4_becomes_5 : decode cX4_becomes 5 = .ok (.iload_n 1, 1) := by decide +kernel
theorem dX4_becomes_6 : decode cX4_becomes 6 = .ok (.iload_n 2, 1) := by decide +kernel
theorem dX4_becomes_7 : decode cX4_becomes 7 = .ok (.iload_n 3, 1) := by decide +kernel
theorem dX4_becomes_8 : decode cX4_becomes 8 = .ok (.invokespecial 7, 3) := by decide +kernel
theorem dX4_becomes_11 : decode cX4_becomes 11 = .ok (.ifCond .ne 7, 3) := by decide +kernel
theorem dX4_becomes_14 : decode cX4_becomes 14 = .ok (.iconst 1, 1) := by decide +kernel
theorem dX4_becomes_15 : decode cX4_becomes 15 = .ok (.goto 4, 3) := by decide +kernel
theorem dX4_becomes_18 : decode cX4_becomes 18 = .ok (.iconst 0, 1) := by decide +kernel
theorem dX4_becomes_19 : decode cX4_becomes 19 = .ok (.ireturn, 1) := by decide +kernel
theorem dX5_init_0 : decode cX5_init 0 = .ok (.aload_n 0, 1) := by decide +kernel
theorem dX5_init_1 : decode cX5_init 1 = .ok (.invokespecial 3, 3) := by decide +kernel
theorem dX5_init_4 : decode cX5_init 4 = .ok (.aload_n 0, 1) := by decide +kernel
theorem dX5_init_5 : decode cX5_init 5 = .ok (.new 9, 3) := by decide +kernel
theorem dX5_init_8 : decode cX5_init 8 = .ok (.dup, 1) := by decide +kernel
theorem dX5_init_9 : decode cX5_init 9 = .ok (.invokespecial 11, 3) := by decide +kernel
theorem dX5_init_12 : decode cX5_init 12 = .ok (.putfield 12, 3) := by decide +kernel
theorem dX5_init_15 : decode cX5_init 15 = .ok (.aload_n 0, 1) := by decide +kernel
theorem dX5_init_16 : decode cX5_init 16 = .ok (.iconst 0, 1) := by decide +kernel
theorem dX5_init_17 : decode cX5_init 17 = .ok (.putfield 18, 3) := by decide +kernel
theorem dX5_init_20 : decode cX5_init 20 = .ok (.aload_n 0, 1) := by decide +kernel
theorem dX5_init_21 : decode cX5_init 21 = .ok (.iconst 0, 1) := by decide +kernel
theorem dX5_init_22 : decode cX5_init 22 = .ok (.putfield 22, 3) := by decide +kernel
theorem dX5_init_25 : decode cX5_init 25 = .ok (.aload_n 0, 1) := by decide +kernel
theorem dX5_init_26 : decode cX5_init 26 = .ok (.iconst 0, 1) := by decide +kernel
theorem dX5_init_27 : decode cX5_init 27 = .ok (.newarray .int, 2) := by decide +kernel
theorem dX5_init_29 : decode cX5_init 29 = .ok (.putfield 25, 3) := by decide +kernel
theorem dX5_init_32 : decode cX5_init 32 = .ok (.aload_n 0, 1) := by decide +kernel
theorem dX5_init_33 : decode cX5_init 33 = .ok (.iconst 0, 1) := by decide +kernel
theorem dX5_init_34 : decode cX5_init 34 = .ok (.putfield 29, 3) := by decide +kernel
theorem dX5_init_37 : decode cX5_init 37 = .ok (.aload_n 0, 1) := by decide +kernel
theorem dX5_init_38 : decode cX5_init 38 = .ok (.iconst 0, 1) := by decide +kernel
theorem dX5_init_39 : decode cX5_init 39 = .ok (.putfield 32, 3) := by decide +kernel
theorem dX5_init_42 : decode cX5_init 42 = .ok (.aload_n 0, 1) := by decide +kernel
theorem dX5_init_43 : decode cX5_init 43 = .ok (.iconst 0, 1) := by decide +kernel
theorem dX5_init_44 : decode cX5_init 44 = .ok (.putfield 35, 3) := by decide +kernel
theorem dX5_init_47 : decode cX5_init 47 = .ok (.aload_n 0, 1) := by decide +kernel
theorem dX5_init_48 : decode cX5_init 48 = .ok (.iconst 0, 1) := by decide +kernel
theorem dX5_init_49 : decode cX5_init 49 = .ok (.putfield 38, 3) := by decide +kernel
theorem dX5_init_52 : decode cX5_init 52 = .ok (.aload_n 0, 1) := by decide +kernel
theorem dX5_init_53 : decode cX5_init 53 = .ok (.iconst 4, 1) := by decide +kernel
theorem dX5_init_54 : decode cX5_init 54 = .ok (.newarray .int, 2) := by decide +kernel
theorem dX5_init_56 : decode cX5_init 56 = .ok (.putfield 41, 3) := by decide +kernel
theorem dX5_init_59 : decode cX5_init 59 = .ok (.return_, 1) := by decide +kernel
theorem dX5_takes_0 : decode cX5_takes 0 = .ok (.aload_n 0, 1) := by decide +kernel
theorem dX5_takes_1 : decode cX5_takes 1 = .ok (.aload_n 1, 1) := by decide +kernel
theorem dX5_takes_2 : decode cX5_takes 2 = .ok (.putfield 25, 3) := by decide +kernel
theorem dX5_takes_5 : decode cX5_takes 5 = .ok (.aload_n 0, 1) := by decide +kernel
theorem dX5_takes_6 : decode cX5_takes 6 = .ok (.iload_n 2, 1) := by decide +kernel
theorem dX5_takes_7 : decode cX5_takes 7 = .ok (.aload_n 1, 1) := by decide +kernel
theorem dX5_takes_8 : decode cX5_takes 8 = .ok (.arraylength, 1) := by decide +kernel
theorem dX5_takes_9 : decode cX5_takes 9 = .ok (.invokestatic 44, 3) := by decide +kernel
theorem dX5_takes_12 : decode cX5_takes 12 = .ok (.putfield 29, 3) := by decide +kernel
theorem dX5_takes_15 : decode cX5_takes 15 = .ok (.aload_n 0, 1) := by decide +kernel
theorem dX5_takes_16 : decode cX5_takes 16 = .ok (.iconst 0, 1) := by decide +kernel
theorem dX5_takes_17 : decode cX5_takes 17 = .ok (.putfield 32, 3) := by decide +kernel
theorem dX5_takes_20 : decode cX5_takes 20 = .ok (.aload_n 0, 1) := by decide +kernel
theorem dX5_takes_21 : decode cX5_takes 21 = .ok (.iconst 0, 1) := by decide +kernel
theorem dX5_takes_22 : decode cX5_takes 22 = .ok (.putfield 18, 3) := by decide +kernel
theorem dX5_takes_25 : decode cX5_takes 25 = .ok (.aload_n 0, 1) := by decide +kernel
theorem dX5_takes_26 : decode cX5_takes 26 = .ok (.getfield 12, 3) := by decide +kernel
theorem dX5_takes_29 : decode cX5_takes 29 = .ok (.invokevirtual 50, 3) := by decide +kernel
theorem dX5_takes_32 : decode cX5_takes 32 = .ok (.iconst 0, 1) := by decide +kernel
theorem dX5_takes_33 : decode cX5_takes 33 = .ok (.istore_n 3, 1) := by decide +kernel
theorem dX5_takes_34 : decode cX5_takes 34 = .ok (.iload_n 3, 1) := by decide +kernel
theorem dX5_takes_35 : decode cX5_takes 35 = .ok (.aload_n 0, 1) := by decide +kernel
theorem dX5_takes_36 : decode cX5_takes 36 = .ok (.getfield 29, 3) := by decide +kernel
theorem dX5_takes_39 : decode cX5_takes 39 = .ok (.if_icmp .gt 48, 3) := by decide +kernel
theorem dX5_takes_42 : decode cX5_takes 42 = .ok (.aload_n 0, 1) := by decide +kernel
theorem dX5_takes_43 : decode cX5_takes 43 = .ok (.invokevirtual 53, 3) := by decide +kernel
theorem dX5_takes_46 : decode cX5_takes 46 = .ok (.aload_n 0, 1) := by decide +kernel
theorem dX5_takes_47 : decode cX5_takes 47 = .ok (.getfield 35, 3) := by decide +kernel
theorem dX5_takes_50 : decode cX5_takes 50 = .ok (.ifCond .ne 5, 3) := by decide +kernel
theorem dX5_takes_53 : decode cX5_takes 53 = .ok (.iconst 1, 1) := by decide +kernel
theorem dX5_takes_54 : decode cX5_takes 54 = .ok (.ireturn, 1) := by decide +kernel
theorem dX5_takes_55 : decode cX5_takes 55 = .ok (.aload_n 0, 1) := by decide +kernel
theorem dX5_takes_56 : decode cX5_takes 56 = .ok (.invokevirtual 56, 3) := by decide +kernel
theorem dX5_takes_59 : decode cX5_takes 59 = .ok (.ifCond .eq 10, 3) := by decide +kernel
theorem dX5_takes_62 : decode cX5_takes 62 = .ok (.aload_n 0, 1) := by decide +kernel
theorem dX5_takes_63 : decode cX5_takes 63 = .ok (.invokevirtual 60, 3) := by decide +kernel
theorem dX5_takes_66 : decode cX5_takes 66 = .ok (.ifCond .ne 5, 3) := by decide +kernel
theorem dX5_takes_69 : decode cX5_takes 69 = .ok (.iconst 0, 1) := by decide +kernel
theorem dX5_takes_70 : decode cX5_takes 70 = .ok (.ireturn, 1) := by decide +kernel
theorem dX5_takes_71 : decode cX5_takes 71 = .ok (.aload_n 0, 1) := by decide +kernel
theorem dX5_takes_72 : decode cX5_takes 72 = .ok (.dup, 1) := by decide +kernel
theorem dX5_takes_73 : decode cX5_takes 73 = .ok (.getfield 18, 3) := by decide +kernel
theorem dX5_takes_76 : decode cX5_takes 76 = .ok (.iconst 1, 1) := by decide +kernel
theorem dX5_takes_77 : decode cX5_takes 77 = .ok (.iadd, 1) := by decide +kernel
theorem dX5_takes_78 : decode cX5_takes 78 = .ok (.putfield 18, 3) := by decide +kernel
theorem dX5_takes_81 : decode cX5_takes 81 = .ok (.iinc 3 1, 3) := by decide +kernel
theorem dX5_takes_84 : decode cX5_takes 84 = .ok (.goto (-50), 3) := by decide +kernel
theorem dX5_takes_87 : decode cX5_takes 87 = .ok (.iconst 0, 1) := by decide +kernel
theorem dX5_takes_88 : decode cX5_takes 88 = .ok (.ireturn, 1) := by decide +kernel
theorem dX5_takesItem_0 : decode cX5_takesItem 0 = .ok (.aload_n 0, 1) := by decide +kernel
theorem dX5_takesItem_1 : decode cX5_takesItem 1 = .ok (.ldc 63, 2) := by decide +kernel
theorem dX5_takesItem_3 : decode cX5_takesItem 3 = .ok (.invokevirtual 65, 3) := by decide +kernel
theorem dX5_takesItem_6 : decode cX5_takesItem 6 = .ok (.ifCond .eq 8, 3) := by decide +kernel
theorem dX5_takesItem_9 : decode cX5_takesItem 9 = .ok (.aload_n 0, 1) := by decide +kernel
theorem dX5_takesItem_10 : decode cX5_takesItem 10 = .ok (.invokevirtual 69, 3) := by decide +kernel
theorem dX5_takesItem_13 : decode cX5_takesItem 13 = .ok (.ireturn, 1) := by decide +kernel
theorem dX5_takesItem_14 : decode cX5_takesItem 14 = .ok (.aload_n 0, 1) := by decide +kernel
theorem dX5_takesItem_15 : decode cX5_takesItem 15 = .ok (.ldc 72, 2) := by decide +kernel
theorem dX5_takesItem_17 : decode cX5_takesItem 17 = .ok (.invokevirtual 65, 3) := by decide +kernel
theorem dX5_takesItem_20 : decode cX5_takesItem 20 = .ok (.ifCond .eq 8, 3) := by decide +kernel
theorem dX5_takesItem_23 : decode cX5_takesItem 23 = .ok (.aload_n 0, 1) := by decide +kernel
theorem dX5_takesItem_24 : decode cX5_takesItem 24 = .ok (.invokevirtual 74, 3) := by decide +kernel
theorem dX5_takesItem_27 : decode cX5_takesItem 27 = .ok (.ireturn, 1) := by decide +kernel
theorem dX5_takesItem_28 : decode cX5_takesItem 28 = .ok (.aload_n 0, 1) := by decide +kernel
theorem dX5_takesItem_29 : decode cX5_takesItem 29 = .ok (.ldc 77, 2) := by decide +kernel
theorem dX5_takesItem_31 : decode cX5_takesItem 31 = .ok (.invokevirtual 65, 3) := by decide +kernel
theorem dX5_takesItem_34 : decode cX5_takesItem 34 = .ok (.ifCond .eq 8, 3) := by decide +kernel
theorem dX5_takesItem_37 : decode cX5_takesItem 37 = .ok (.aload_n 0, 1) := by decide +kernel
theorem dX5_takesItem_38 : decode cX5_takesItem 38 = .ok (.invokevirtual 79, 3) := by decide +kernel
theorem dX5_takesItem_41 : decode cX5_takesItem 41 = .ok (.ireturn, 1) := by decide +kernel
theorem dX5_takesItem_42 : decode cX5_takesItem 42 = .ok (.aload_n 0, 1) := by decide +kernel
theorem dX5_takesItem_43 : decode cX5_takesItem 43 = .ok (.ldc 82, 2) := by decide +kernel
theorem dX5_takesItem_45 : decode cX5_takesItem 45 = .ok (.invokevirtual 65, 3) := by decide +kernel
theorem dX5_takesItem_48 : decode cX5_takesItem 48 = .ok (.ifCond .eq 8, 3) := by decide +kernel
theorem dX5_takesItem_51 : decode cX5_takesItem 51 = .ok (.aload_n 0, 1) := by decide +kernel
theorem dX5_takesItem_52 : decode cX5_takesItem 52 = .ok (.invokevirtual 84, 3) := by decide +kernel
theorem dX5_takesItem_55 : decode cX5_takesItem 55 = .ok (.ireturn, 1) := by decide +kernel
theorem dX5_takesItem_56 : decode cX5_takesItem 56 = .ok (.aload_n 0, 1) := by decide +kernel
theorem dX5_takesItem_57 : decode cX5_takesItem 57 = .ok (.ldc 87, 2) := by decide +kernel
theorem dX5_takesItem_59 : decode cX5_takesItem 59 = .ok (.invokevirtual 65, 3) := by decide +kernel
theorem dX5_takesItem_62 : decode cX5_takesItem 62 = .ok (.ifCond .eq 8, 3) := by decide +kernel
theorem dX5_takesItem_65 : decode cX5_takesItem 65 = .ok (.aload_n 0, 1) := by decide +kernel
theorem dX5_takesItem_66 : decode cX5_takesItem 66 = .ok (.invokevirtual 89, 3) := by decide +kernel
theorem dX5_takesItem_69 : decode cX5_takesItem 69 = .ok (.ireturn, 1) := by decide +kernel
theorem dX5_takesItem_70 : decode cX5_takesItem 70 = .ok (.iconst 0, 1) := by decide +kernel
theorem dX5_takesItem_71 : decode cX5_takesItem 71 = .ok (.ireturn, 1) := by decide +kernel
theorem dX5_takesThing_0 : decode cX5_takesThing 0 = .ok (.aload_n 0, 1) := by decide +kernel
theorem dX5_takesThing_1 : decode cX5_takesThing 1 = .ok (.getfield 12, 3) := by decide +kernel
theorem dX5_takesThing_4 : decode cX5_takesThing 4 = .ok (.getfield 92, 3) := by decide +kernel
theorem dX5_takesThing_7 : decode cX5_takesThing 7 = .ok (.iconst 5, 1) := by decide +kernel
theorem dX5_takesThing_8 : decode cX5_takesThing 8 = .ok (.if_icmp .ge 50, 3) := by decide +kernel
theorem dX5_takesThing_11 : decode cX5_takesThing 11 = .ok (.aload_n 0, 1) := by decide +kernel
theorem dX5_takesThing_12 : decode cX5_takesThing 12 = .ok (.iconst 0, 1) := by decide +kernel
theorem dX5_takesThing_13 : decode cX5_takesThing 13 = .ok (.iconst 0, 1) := by decide +kernel
theorem dX5_takesThing_14 : decode cX5_takesThing 14 = .ok (.iconst 4, 1) := by decide +kernel
theorem dX5_takesThing_15 : decode cX5_takesThing 15 = .ok (.invokevirtual 95, 3) := by decide +kernel
theorem dX5_takesThing_18 : decode cX5_takesThing 18 = .ok (.ifCond .eq 40, 3) := by decide +kernel
theorem dX5_takesThing_21 : decode cX5_takesThing 21 = .ok (.aload_n 0, 1) := by decide +kernel
theorem dX5_takesThing_22 : decode cX5_takesThing 22 = .ok (.iconst 1, 1) := by decide +kernel
theorem dX5_takesThing_23 : decode cX5_takesThing 23 = .ok (.iconst 0, 1) := by decide +kernel
theorem dX5_takesThing_24 : decode cX5_takesThing 24 = .ok (.bipush 9, 2) := by decide +kernel
theorem dX5_takesThing_26 : decode cX5_takesThing 26 = .ok (.invokevirtual 95, 3) := by decide +kernel
theorem dX5_takesThing_29 : decode cX5_takesThing 29 = .ok (.ifCond .eq 29, 3) := by decide +kernel
theorem dX5_takesThing_32 : decode cX5_takesThing 32 = .ok (.aload_n 0, 1) := by decide +kernel
theorem dX5_takesThing_33 : decode cX5_takesThing 33 = .ok (.iconst 2, 1) := by decide +kernel
theorem dX5_takesThing_34 : decode cX5_takesThing 34 = .ok (.iconst 1, 1) := by decide +kernel
theorem dX5_takesThing_35 : decode cX5_takesThing 35 = .ok (.bipush 9, 2) := by decide +kernel
theorem dX5_takesThing_37 : decode cX5_takesThing 37 = .ok (.invokevirtual 95, 3) := by decide +kernel
theorem dX5_takesThing_40 : decode cX5_takesThing 40 = .ok (.ifCond .eq 18, 3) := by decide +kernel
theorem dX5_takesThing_43 : decode cX5_takesThing 43 = .ok (.aload_n 0, 1) := by decide +kernel
theorem dX5_takesThing_44 : decode cX5_takesThing 44 = .ok (.iconst 3, 1) := by decide +kernel
theorem dX5_takesThing_45 : decode cX5_takesThing 45 = .ok (.iconst 0, 1) := by decide +kernel
theorem dX5_takesThing_46 : decode cX5_takesThing 46 = .ok (.bipush 9, 2) := by decide +kernel
theorem dX5_takesThing_48 : decode cX5_takesThing 48 = .ok (.invokevirtual 95, 3) := by decide +kernel
theorem dX5_takesThing_51 : decode cX5_takesThing 51 = .ok (.ifCond .eq 7, 3) := by decide +kernel
theorem dX5_takesThing_54 : decode cX5_takesThing 54 = .ok (.iconst 1, 1) := by decide +kernel
theorem dX5_takesThing_55 : decode cX5_takesThing 55 = .ok (.goto 4, 3) := by decide +kernel
theorem dX5_takesThing_58 : decode cX5_takesThing 58 = .ok (.iconst 0, 1) := by decide +kernel
theorem dX5_takesThing_59 : decode cX5_takesThing 59 = .ok (.istore_n 1, 1) := by decide +kernel
theorem dX5_takesThing_60 : decode cX5_takesThing 60 = .ok (.iload_n 1, 1) := by decide +kernel
theorem dX5_takesThing_61 : decode cX5_takesThing 61 = .ok (.ifCond .eq 34, 3) := by decide +kernel
theorem dX5_takesThing_64 : decode cX5_takesThing 64 = .ok (.aload_n 0, 1) := by decide +kernel
theorem dX5_takesThing_65 : decode cX5_takesThing 65 = .ok (.getfield 12, 3) := by decide +kernel
theorem dX5_takesThing_68 : decode cX5_takesThing 68 = .ok (.aload_n 0, 1) := by decide +kernel
theorem dX5_takesThing_69 : decode cX5_takesThing 69 = .ok (.getfield 41, 3) := by decide +kernel
theorem dX5_takesThing_72 : decode cX5_takesThing 72 = .ok (.iconst 0, 1) := by decide +kernel
theorem dX5_takesThing_73 : decode cX5_takesThing 73 = .ok (.iaload, 1) := by decide +kernel
theorem dX5_takesThing_74 : decode cX5_takesThing 74 = .ok (.aload_n 0, 1) := by decide +kernel
theorem dX5_takesThing_75 : decode cX5_takesThing 75 = .ok (.getfield 41, 3) := by decide +kernel
theorem dX5_takesThing_78 : decode cX5_takesThing 78 = .ok (.iconst 1, 1) := by decide +kernel
theorem dX5_takesThing_79 : decode cX5_takesThing 79 = .ok (.iaload, 1) := by decide +kernel
theorem dX5_takesThing_80 : decode cX5_takesThing 80 = .ok (.aload_n 0, 1) := by decide +kernel
theorem dX5_takesThing_81 : decode cX5_takesThing 81 = .ok (.getfield 41, 3) := by decide +kernel
theorem dX5_takesThing_84 : decode cX5_takesThing 84 = .ok (.iconst 2, 1) := by decide +kernel
theorem dX5_takesThing_85 : decode cX5_takesThing 85 = .ok (.iaload, 1) := by decide +kernel
theorem dX5_takesThing_86 : decode cX5_takesThing 86 = .ok (.aload_n 0, 1) := by decide +kernel
theorem dX5_takesThing_87 : decode cX5_takesThing 87 = .ok (.getfield 41, 3) := by decide +kernel
theorem dX5_takesThing_90 : decode cX5_takesThing 90 = .ok (.iconst 3, 1) := by decide +kernel
theorem dX5_takesThing_91 : decode cX5_takesThing 91 = .ok (.iaload, 1) := by decide +kernel
theorem dX5_takesThing_92 : decode cX5_takesThing 92 = .ok (.invokevirtual 99, 3) := by decide +kernel
theorem dX5_takesThing_95 : decode cX5_takesThing 95 = .ok (.iload_n 1, 1) := by decide +kernel
theorem dX5_takesThing_96 : decode cX5_takesThing 96 = .ok (.ireturn, 1) := by decide +kernel
theorem dX5_takesCut_0 : decode cX5_takesCut 0 = .ok (.aload_n 0, 1) := by decide +kernel
theorem dX5_takesCut_1 : decode cX5_takesCut 1 = .ok (.iconst 0, 1) := by decide +kernel
theorem dX5_takesCut_2 : decode cX5_takesCut 2 = .ok (.iconst 0, 1) := by decide +kernel
theorem dX5_takesCut_3 : decode cX5_takesCut 3 = .ok (.aload_n 0, 1) := by decide +kernel
theorem dX5_takesCut_4 : decode cX5_takesCut 4 = .ok (.getfield 12, 3) := by decide +kernel
theorem dX5_takesCut_7 : decode cX5_takesCut 7 = .ok (.getfield 92, 3) := by decide +kernel
theorem dX5_takesCut_10 : decode cX5_takesCut 10 = .ok (.iconst 1, 1) := by decide +kernel
theorem dX5_takesCut_11 : decode cX5_takesCut 11 = .ok (.isub, 1) := by decide +kernel
theorem dX5_takesCut_12 : decode cX5_takesCut 12 = .ok (.invokevirtual 95, 3) := by decide +kernel
theorem dX5_takesCut_15 : decode cX5_takesCut 15 = .ok (.ifCond .eq 22, 3) := by decide +kernel
theorem dX5_takesCut_18 : decode cX5_takesCut 18 = .ok (.aload_n 0, 1) := by decide +kernel
theorem dX5_takesCut_19 : decode cX5_takesCut 19 = .ok (.getfield 12, 3) := by decide +kernel
theorem dX5_takesCut_22 : decode cX5_takesCut 22 = .ok (.getfield 103, 3) := by decide +kernel
theorem dX5_takesCut_25 : decode cX5_takesCut 25 = .ok (.aload_n 0, 1) := by decide +kernel
theorem dX5_takesCut_26 : decode cX5_takesCut 26 = .ok (.getfield 41, 3) := by decide +kernel
theorem dX5_takesCut_29 : decode cX5_takesCut 29 = .ok (.iconst 0, 1) := by decide +kernel
theorem dX5_takesCut_30 : decode cX5_takesCut 30 = .ok (.iaload, 1) := by decide +kernel
theorem dX5_takesCut_31 : decode cX5_takesCut 31 = .ok (.invokestatic 106, 3) := by decide +kernel
theorem dX5_takesCut_34 : decode cX5_takesCut 34 = .ok (.ifCond .ne 5, 3) := by decide +kernel
theorem dX5_takesCut_37 : decode cX5_takesCut 37 = .ok (.iconst 0, 1) := by decide +kernel
theorem dX5_takesCut_38 : decode cX5_takesCut 38 = .ok (.ireturn, 1) := by decide +kernel
theorem dX5_takesCut_39 : decode cX5_takesCut 39 = .ok (.aload_n 0, 1) := by decide +kernel
theorem dX5_takesCut_40 : decode cX5_takesCut 40 = .ok (.getfield 12, 3) := by decide +kernel
theorem dX5_takesCut_43 : decode cX5_takesCut 43 = .ok (.dup, 1) := by decide +kernel
theorem dX5_takesCut_44 : decode cX5_takesCut 44 = .ok (.getfield 103, 3) := by decide +kernel
theorem dX5_takesCut_47 : decode cX5_takesCut 47 = .ok (.iconst 1, 1) := by decide +kernel
theorem dX5_takesCut_48 : decode cX5_takesCut 48 = .ok (.aload_n 0, 1) := by decide +kernel
theorem dX5_takesCut_49 : decode cX5_takesCut 49 = .ok (.getfield 41, 3) := by decide +kernel
theorem dX5_takesCut_52 : decode cX5_takesCut 52 = .ok (.iconst 0, 1) := by decide +kernel
theorem dX5_takesCut_53 : decode cX5_takesCut 53 = .ok (.iaload, 1) := by decide +kernel
theorem dX5_takesCut_54 : decode cX5_takesCut 54 = .ok (.ishl, 1) := by decide +kernel
theorem dX5_takesCut_55 : decode cX5_takesCut 55 = .ok (.ixor, 1) := by decide +kernel
theorem dX5_takesCut_56 : decode cX5_takesCut 56 = .ok (.putfield 103, 3) := by decide +kernel
theorem dX5_takesCut_59 : decode cX5_takesCut 59 = .ok (.iconst 1, 1) := by decide +kernel
theorem dX5_takesCut_60 : decode cX5_takesCut 60 = .ok (.ireturn, 1) := by decide +kernel
theorem dX5_takesDamp_0 : decode cX5_takesDamp 0 = .ok (.aload_n 0, 1) := by decide +kernel
theorem dX5_takesDamp_1 : decode cX5_takesDamp 1 = .ok (.iconst 0, 1) := by decide +kernel
theorem dX5_takesDamp_2 : decode cX5_takesDamp 2 = .ok (.iconst 0, 1) := by decide +kernel
theorem dX5_takesDamp_3 : decode cX5_takesDamp 3 = .ok (.bipush 9, 2) := by decide +kernel
theorem dX5_takesDamp_5 : decode cX5_takesDamp 5 = .ok (.invokevirtual 95, 3) := by decide +kernel
theorem dX5_takesDamp_8 : decode cX5_takesDamp 8 = .ok (.ifCond .ne 5, 3) := by decide +kernel
theorem dX5_takesDamp_11 : decode cX5_takesDamp 11 = .ok (.iconst 0, 1) := by decide +kernel
theorem dX5_takesDamp_12 : decode cX5_takesDamp 12 = .ok (.ireturn, 1) := by decide +kernel
theorem dX5_takesDamp_13 : decode cX5_takesDamp 13 = .ok (.aload_n 0, 1) := by decide +kernel
theorem dX5_takesDamp_14 : decode cX5_takesDamp 14 = .ok (.getfield 12, 3) := by decide +kernel
theorem dX5_takesDamp_17 : decode cX5_takesDamp 17 = .ok (.aload_n 0, 1) := by decide +kernel
theorem dX5_takesDamp_18 : decode cX5_takesDamp 18 = .ok (.getfield 41, 3) := by decide +kernel
theorem dX5_takesDamp_21 : decode cX5_takesDamp 21 = .ok (.iconst 0, 1) := by decide +kernel
theorem dX5_takesDamp_22 : decode cX5_takesDamp 22 = .ok (.iaload, 1) := by decide +kernel
theorem dX5_takesDamp_23 : decode cX5_takesDamp 23 = .ok (.putfield 110, 3) := by decide +kernel
theorem dX5_takesDamp_26 : decode cX5_takesDamp 26 = .ok (.iconst 1, 1) := by decide +kernel
theorem dX5_takesDamp_27 : decode cX5_takesDamp 27 = .ok (.ireturn, 1) := by decide +kernel
theorem dX5_takesErrand_0 : decode cX5_takesErrand 0 = .ok (.aload_n 0, 1) := by decide +kernel
theorem dX5_takesErrand_1 : decode cX5_takesErrand 1 = .ok (.getfield 12, 3) := by decide +kernel
theorem dX5_takesErrand_4 : decode cX5_takesErrand 4 = .ok (.getfield 112, 3) := by decide +kernel
theorem dX5_takesErrand_7 : decode cX5_takesErrand 7 = .ok (.iconst 5, 1) := by decide +kernel
theorem dX5_takesErrand_8 : decode cX5_takesErrand 8 = .ok (.if_icmp .ge 36, 3) := by decide +kernel
theorem dX5_takesErrand_11 : decode cX5_takesErrand 11 = .ok (.aload_n 0, 1) := by decide +kernel
theorem dX5_takesErrand_12 : decode cX5_takesErrand 12 = .ok (.iconst 0, 1) := by decide +kernel
theorem dX5_takesErrand_13 : decode cX5_takesErrand 13 = .ok (.iconst 0, 1) := by decide +kernel
theorem dX5_takesErrand_14 : decode cX5_takesErrand 14 = .ok (.aload_n 0, 1) := by decide +kernel
theorem dX5_takesErrand_15 : decode cX5_takesErrand 15 = .ok (.getfield 12, 3) := by decide +kernel
theorem dX5_takesErrand_18 : decode cX5_takesErrand 18 = .ok (.getfield 92, 3) := by decide +kernel
theorem dX5_takesErrand_21 : decode cX5_takesErrand 21 = .ok (.iconst 1, 1) := by decide +kernel
theorem dX5_takesErrand_22 : decode cX5_takesErrand 22 = .ok (.isub, 1) := by decide +kernel
theorem dX5_takesErrand_23 : decode cX5_takesErrand 23 = .ok (.invokevirtual 95, 3) := by decide +kernel
theorem dX5_takesErrand_26 : decode cX5_takesErrand 26 = .ok (.ifCond .eq 18, 3) := by decide +kernel
theorem dX5_takesErrand_29 : decode cX5_takesErrand 29 = .ok (.aload_n 0, 1) := by decide +kernel
theorem dX5_takesErrand_30 : decode cX5_takesErrand 30 = .ok (.iconst 1, 1) := by decide +kernel
theorem dX5_takesErrand_31 : decode cX5_takesErrand 31 = .ok (.iconst 0, 1) := by decide +kernel
theorem dX5_takesErrand_32 : decode cX5_takesErrand 32 = .ok (.bipush 20, 2) := by decide +kernel
theorem dX5_takesErrand_34 : decode cX5_takesErrand 34 = .ok (.invokevirtual 95, 3) := by decide +kernel
theorem dX5_takesErrand_37 : decode cX5_takesErrand 37 = .ok (.ifCond .eq 7, 3) := by decide +kernel
theorem dX5_takesErrand_40 : decode cX5_takesErrand 40 = .ok (.iconst 1, 1) := by decide +kernel
theorem dX5_takesErrand_41 : decode cX5_takesErrand 41 = .ok (.goto 4, 3) := by decide +kernel
theorem dX5_takesErrand_44 : decode cX5_takesErrand 44 = .ok (.iconst 0, 1) := by decide +kernel
theorem dX5_takesErrand_45 : decode cX5_takesErrand 45 = .ok (.istore_n 1, 1) := by decide +kernel
theorem dX5_takesErrand_46 : decode cX5_takesErrand 46 = .ok (.iload_n 1, 1) := by decide +kernel
theorem dX5_takesErrand_47 : decode cX5_takesErrand 47 = .ok (.ifCond .eq 22, 3) := by decide +kernel
theorem dX5_takesErrand_50 : decode cX5_takesErrand 50 = .ok (.aload_n 0, 1) := by decide +kernel
theorem dX5_takesErrand_51 : decode cX5_takesErrand 51 = .ok (.getfield 12, 3) := by decide +kernel
theorem dX5_takesErrand_54 : decode cX5_takesErrand 54 = .ok (.aload_n 0, 1) := by decide +kernel
theorem dX5_takesErrand_55 : decode cX5_takesErrand 55 = .ok (.getfield 41, 3) := by decide +kernel
theorem dX5_takesErrand_58 : decode cX5_takesErrand 58 = .ok (.iconst 0, 1) := by decide +kernel
theorem dX5_takesErrand_59 : decode cX5_takesErrand 59 = .ok (.iaload, 1) := by decide +kernel
theorem dX5_takesErrand_60 : decode cX5_takesErrand 60 = .ok (.aload_n 0, 1) := by decide +kernel
theorem dX5_takesErrand_61 : decode cX5_takesErrand 61 = .ok (.getfield 41, 3) := by decide +kernel
theorem dX5_takesErrand_64 : decode cX5_takesErrand 64 = .ok (.iconst 1, 1) := by decide +kernel
theorem dX5_takesErrand_65 : decode cX5_takesErrand 65 = .ok (.iaload, 1) := by decide +kernel
theorem dX5_takesErrand_66 : decode cX5_takesErrand 66 = .ok (.invokevirtual 115, 3) := by decide +kernel
theorem dX5_takesErrand_69 : decode cX5_takesErrand 69 = .ok (.iload_n 1, 1) := by decide +kernel
theorem dX5_takesErrand_70 : decode cX5_takesErrand 70 = .ok (.ireturn, 1) := by decide +kernel
theorem dX5_takesRule_0 : decode cX5_takesRule 0 = .ok (.aload_n 0, 1) := by decide +kernel
theorem dX5_takesRule_1 : decode cX5_takesRule 1 = .ok (.getfield 12, 3) := by decide +kernel
theorem dX5_takesRule_4 : decode cX5_takesRule 4 = .ok (.getfield 119, 3) := by decide +kernel
theorem dX5_takesRule_7 : decode cX5_takesRule 7 = .ok (.iconst 4, 1) := by decide +kernel
theorem dX5_takesRule_8 : decode cX5_takesRule 8 = .ok (.if_icmp .ge 56, 3) := by decide +kernel
theorem dX5_takesRule_11 : decode cX5_takesRule 11 = .ok (.aload_n 0, 1) := by decide +kernel
theorem dX5_takesRule_12 : decode cX5_takesRule 12 = .ok (.iconst 0, 1) := by decide +kernel
theorem dX5_takesRule_13 : decode cX5_takesRule 13 = .ok (.iconst 0, 1) := by decide +kernel
theorem dX5_takesRule_14 : decode cX5_takesRule 14 = .ok (.aload_n 0, 1) := by decide +kernel
theorem dX5_takesRule_15 : decode cX5_takesRule 15 = .ok (.getfield 12, 3) := by decide +kernel
theorem dX5_takesRule_18 : decode cX5_takesRule 18 = .ok (.getfield 92, 3) := by decide +kernel
theorem dX5_takesRule_21 : decode cX5_takesRule 21 = .ok (.iconst 1, 1) := by decide +kernel
theorem dX5_takesRule_22 : decode cX5_takesRule 22 = .ok (.isub, 1) := by decide +kernel
theorem dX5_takesRule_23 : decode cX5_takesRule 23 = .ok (.invokevirtual 95, 3) := by decide +kernel
theorem dX5_takesRule_26 : decode cX5_takesRule 26 = .ok (.ifCond .eq 38, 3) := by decide +kernel
theorem dX5_takesRule_29 : decode cX5_takesRule 29 = .ok (.aload_n 0, 1) := by decide +kernel
theorem dX5_takesRule_30 : decode cX5_takesRule 30 = .ok (.iconst 1, 1) := by decide +kernel
theorem dX5_takesRule_31 : decode cX5_takesRule 31 = .ok (.iconst 0, 1) := by decide +kernel
theorem dX5_takesRule_32 : decode cX5_takesRule 32 = .ok (.bipush 20, 2) := by decide +kernel
theorem dX5_takesRule_34 : decode cX5_takesRule 34 = .ok (.invokevirtual 95, 3) := by decide +kernel
theorem dX5_takesRule_37 : decode cX5_takesRule 37 = .ok (.ifCond .eq 27, 3) := by decide +kernel
theorem dX5_takesRule_40 : decode cX5_takesRule 40 = .ok (.aload_n 0, 1) := by decide +kernel
theorem dX5_takesRule_41 : decode cX5_takesRule 41 = .ok (.iconst 2, 1) := by decide +kernel
theorem dX5_takesRule_42 : decode cX5_takesRule 42 = .ok (.iconst 0, 1) := by decide +kernel
theorem dX5_takesRule_43 : decode cX5_takesRule 43 = .ok (.iconst 1, 1) := by decide +kernel
theorem dX5_takesRule_44 : decode cX5_takesRule 44 = .ok (.aload_n 0, 1) := by decide +kernel
theorem dX5_takesRule_45 : decode cX5_takesRule 45 = .ok (.getfield 12, 3) := by decide +kernel
theorem dX5_takesRule_48 : decode cX5_takesRule 48 = .ok (.getfield 92, 3) := by decide +kernel
theorem dX5_takesRule_51 : decode cX5_takesRule 51 = .ok (.ishl, 1) := by decide +kernel
theorem dX5_takesRule_52 : decode cX5_takesRule 52 = .ok (.iconst 1, 1) := by decide +kernel
theorem dX5_takesRule_53 : decode cX5_takesRule 53 = .ok (.isub, 1) := by decide +kernel
theorem dX5_takesRule_54 : decode cX5_takesRule 54 = .ok (.invokevirtual 95, 3) := by decide +kernel
theorem dX5_takesRule_57 : decode cX5_takesRule 57 = .ok (.ifCond .eq 7, 3) := by decide +kernel
theorem dX5_takesRule_60 : decode cX5_takesRule 60 = .ok (.iconst 1, 1) := by decide +kernel
theorem dX5_takesRule_61 : decode cX5_takesRule 61 = .ok (.goto 4, 3) := by decide +kernel
theorem dX5_takesRule_64 : decode cX5_takesRule 64 = .ok (.iconst 0, 1) := by decide +kernel
theorem dX5_takesRule_65 : decode cX5_takesRule 65 = .ok (.istore_n 1, 1) := by decide +kernel
theorem dX5_takesRule_66 : decode cX5_takesRule 66 = .ok (.iload_n 1, 1) := by decide +kernel
theorem dX5_takesRule_67 : decode cX5_takesRule 67 = .ok (.ifCond .eq 28, 3) := by decide +kernel
theorem dX5_takesRule_70 : decode cX5_takesRule 70 = .ok (.aload_n 0, 1) := by decide +kernel
theorem dX5_takesRule_71 : decode cX5_takesRule 71 = .ok (.getfield 12, 3) := by decide +kernel
theorem dX5_takesRule_74 : decode cX5_takesRule 74 = .ok (.aload_n 0, 1) := by decide +kernel
theorem dX5_takesRule_75 : decode cX5_takesRule 75 = .ok (.getfield 41, 3) := by decide +kernel
theorem dX5_takesRule_78 : decode cX5_takesRule 78 = .ok (.iconst 0, 1) := by decide +kernel
theorem dX5_takesRule_79 : decode cX5_takesRule 79 = .ok (.iaload, 1) := by decide +kernel
theorem dX5_takesRule_80 : decode cX5_takesRule 80 = .ok (.aload_n 0, 1) := by decide +kernel
theorem dX5_takesRule_81 : decode cX5_takesRule 81 = .ok (.getfield 41, 3) := by decide +kernel
theorem dX5_takesRule_84 : decode cX5_takesRule 84 = .ok (.iconst 1, 1) := by decide +kernel
theorem dX5_takesRule_85 : decode cX5_takesRule 85 = .ok (.iaload, 1) := by decide +kernel
theorem dX5_takesRule_86 : decode cX5_takesRule 86 = .ok (.aload_n 0, 1) := by decide +kernel
theorem dX5_takesRule_87 : decode cX5_takesRule 87 = .ok (.getfield 41, 3) := by decide +kernel
theorem dX5_takesRule_90 : decode cX5_takesRule 90 = .ok (.iconst 2, 1) := by decide +kernel
theorem dX5_takesRule_91 : decode cX5_takesRule 91 = .ok (.iaload, 1) := by decide +kernel
theorem dX5_takesRule_92 : decode cX5_takesRule 92 = .ok (.invokevirtual 122, 3) := by decide +kernel
theorem dX5_takesRule_95 : decode cX5_takesRule 95 = .ok (.iload_n 1, 1) := by decide +kernel
theorem dX5_takesRule_96 : decode cX5_takesRule 96 = .ok (.ireturn, 1) := by decide +kernel
theorem dX5_takesNumber_0 : decode cX5_takesNumber 0 = .ok (.aload_n 0, 1) := by decide +kernel
theorem dX5_takesNumber_1 : decode cX5_takesNumber 1 = .ok (.invokevirtual 53, 3) := by decide +kernel
theorem dX5_takesNumber_4 : decode cX5_takesNumber 4 = .ok (.aload_n 0, 1) := by decide +kernel
theorem dX5_takesNumber_5 : decode cX5_takesNumber 5 = .ok (.getfield 35, 3) := by decide +kernel
theorem dX5_takesNumber_8 : decode cX5_takesNumber 8 = .ok (.iconst 2, 1) := by decide +kernel
theorem dX5_takesNumber_9 : decode cX5_takesNumber 9 = .ok (.if_icmp .ne 15, 3) := by decide +kernel
theorem dX5_takesNumber_12 : decode cX5_takesNumber 12 = .ok (.aload_n 0, 1) := by decide +kernel
theorem dX5_takesNumber_13 : decode cX5_takesNumber 13 = .ok (.getfield 38, 3) := by decide +kernel
theorem dX5_takesNumber_16 : decode cX5_takesNumber 16 = .ok (.iload_n 2, 1) := by decide +kernel
theorem dX5_takesNumber_17 : decode cX5_takesNumber 17 = .ok (.iload_n 3, 1) := by decide +kernel
theorem dX5_takesNumber_18 : decode cX5_takesNumber 18 = .ok (.invokestatic 126, 3) := by decide +kernel
theorem dX5_takesNumber_21 : decode cX5_takesNumber 21 = .ok (.ifCond .ne 5, 3) := by decide +kernel
theorem dX5_takesNumber_24 : decode cX5_takesNumber 24 = .ok (.iconst 0, 1) := by decide +kernel
theorem dX5_takesNumber_25 : decode cX5_takesNumber 25 = .ok (.ireturn, 1) := by decide +kernel
theorem dX5_takesNumber_26 : decode cX5_takesNumber 26 = .ok (.aload_n 0, 1) := by decide +kernel
theorem dX5_takesNumber_27 : decode cX5_takesNumber 27 = .ok (.getfield 41, 3) := by decide +kernel
theorem dX5_takesNumber_30 : decode cX5_takesNumber 30 = .ok (.iload_n 1, 1) := by decide +kernel
theorem dX5_takesNumber_31 : decode cX5_takesNumber 31 = .ok (.aload_n 0, 1) := by decide +kernel
theorem dX5_takesNumber_32 : decode cX5_takesNumber 32 = .ok (.getfield 38, 3) := by decide +kernel
theorem dX5_takesNumber_35 : decode cX5_takesNumber 35 = .ok (.iastore, 1) := by decide +kernel
theorem dX5_takesNumber_36 : decode cX5_takesNumber 36 = .ok (.iconst 1, 1) := by decide +kernel
theorem dX5_takesNumber_37 : decode cX5_takesNumber 37 = .ok (.ireturn, 1) := by decide +kernel
theorem dX5_takesEndOfItem_0 : decode cX5_takesEndOfItem 0 = .ok (.aload_n 0, 1) := by decide +kernel
theorem dX5_takesEndOfItem_1 : decode cX5_takesEndOfItem 1 = .ok (.invokevirtual 53, 3) := by decide +kernel
theorem dX5_takesEndOfItem_4 : decode cX5_takesEndOfItem 4 = .ok (.aload_n 0, 1) := by decide +kernel
theorem dX5_takesEndOfItem_5 : decode cX5_takesEndOfItem 5 = .ok (.getfield 35, 3) := by decide +kernel
theorem dX5_takesEndOfItem_8 : decode cX5_takesEndOfItem 8 = .ok (.iconst 3, 1) := by decide +kernel
theorem dX5_takesEndOfItem_9 : decode cX5_takesEndOfItem 9 = .ok (.if_icmp .ne 7, 3) := by decide +kernel
theorem dX5_takesEndOfItem_12 : decode cX5_takesEndOfItem 12 = .ok (.iconst 1, 1) := by decide +kernel
theorem dX5_takesEndOfItem_13 : decode cX5_takesEndOfItem 13 = .ok (.goto 4, 3) := by decide +kernel
theorem dX5_takesEndOfItem_16 : decode cX5_takesEndOfItem 16 = .ok (.iconst 0, 1) := by decide +kernel
theorem dX5_takesEndOfItem_17 : decode cX5_takesEndOfItem 17 = .ok (.ireturn, 1) := by decide +kernel
theorem dX5_nextToken_0 : decode cX5_nextToken 0 = .ok (.aload_n 0, 1) := by decide +kernel
theorem dX5_nextToken_1 : decode cX5_nextToken 1 = .ok (.aload_n 0, 1) := by decide +kernel
theorem dX5_nextToken_2 : decode cX5_nextToken 2 = .ok (.aload_n 0, 1) := by decide +kernel
theorem dX5_nextToken_3 : decode cX5_nextToken 3 = .ok (.getfield 32, 3) := by decide +kernel
theorem dX5_nextToken_6 : decode cX5_nextToken 6 = .ok (.bipush 32, 2) := by decide +kernel
theorem dX5_nextToken_8 : decode cX5_nextToken 8 = .ok (.bipush 32, 2) := by decide +kernel
theorem dX5_nextToken_10 : decode cX5_nextToken 10 = .ok (.invokevirtual 129, 3) := by decide +kernel
theorem dX5_nextToken_13 : decode cX5_nextToken 13 = .ok (.putfield 22, 3) := by decide +kernel
theorem dX5_nextToken_16 : decode cX5_nextToken 16 = .ok (.aload_n 0, 1) := by decide +kernel
theorem dX5_nextToken_17 : decode cX5_nextToken 17 = .ok (.aload_n 0, 1) := by decide +kernel
theorem dX5_nextToken_18 : decode cX5_nextToken 18 = .ok (.getfield 22, 3) := by decide +kernel
theorem dX5_nextToken_21 : decode cX5_nextToken 21 = .ok (.putfield 32, 3) := by decide +kernel
theorem dX5_nextToken_24 : decode cX5_nextToken 24 = .ok (.aload_n 0, 1) := by decide +kernel
theorem dX5_nextToken_25 : decode cX5_nextToken 25 = .ok (.getfield 22, 3) := by decide +kernel
theorem dX5_nextToken_28 : decode cX5_nextToken 28 = .ok (.aload_n 0, 1) := by decide +kernel
theorem dX5_nextToken_29 : decode cX5_nextToken 29 = .ok (.getfield 29, 3) := by decide +kernel
theorem dX5_nextToken_32 : decode cX5_nextToken 32 = .ok (.if_icmp .lt 11, 3) := by decide +kernel
theorem dX5_nextToken_35 : decode cX5_nextToken 35 = .ok (.aload_n 0, 1) := by decide +kernel
theorem dX5_nextToken_36 : decode cX5_nextToken 36 = .ok (.iconst 0, 1) := by decide +kernel
theorem dX5_nextToken_37 : decode cX5_nextToken 37 = .ok (.putfield 35, 3) := by decide +kernel
theorem dX5_nextToken_40 : decode cX5_nextToken 40 = .ok (.goto 139, 3) := by decide +kernel
theorem dX5_nextToken_43 : decode cX5_nextToken 43 = .ok (.aload_n 0, 1) := by decide +kernel
theorem dX5_nextToken_44 : decode cX5_nextToken 44 = .ok (.getfield 25, 3) := by decide +kernel
theorem dX5_nextToken_47 : decode cX5_nextToken 47 = .ok (.aload_n 0, 1) := by decide +kernel
theorem dX5_nextToken_48 : decode cX5_nextToken 48 = .ok (.getfield 22, 3) := by decide +kernel
theorem dX5_nextToken_51 : decode cX5_nextToken 51 = .ok (.iaload, 1) := by decide +kernel
theorem dX5_nextToken_52 : decode cX5_nextToken 52 = .ok (.bipush 97, 2) := by decide +kernel
theorem dX5_nextToken_54 : decode cX5_nextToken 54 = .ok (.if_icmp .lt 41, 3) := by decide +kernel
theorem dX5_nextToken_57 : decode cX5_nextToken 57 = .ok (.aload_n 0, 1) := by decide +kernel
theorem dX5_nextToken_58 : decode cX5_nextToken 58 = .ok (.getfield 25, 3) := by decide +kernel
theorem dX5_nextToken_61 : decode cX5_nextToken 61 = .ok (.aload_n 0, 1) := by decide +kernel
theorem dX5_nextToken_62 : decode cX5_nextToken 62 = .ok (.getfield 22, 3) := by decide +kernel
theorem dX5_nextToken_65 : decode cX5_nextToken 65 = .ok (.iaload, 1) := by decide +kernel
theorem dX5_nextToken_66 : decode cX5_nextToken 66 = .ok (.bipush 122, 2) := by decide +kernel
theorem dX5_nextToken_68 : decode cX5_nextToken 68 = .ok (.if_icmp .gt 27, 3) := by decide +kernel
theorem dX5_nextToken_71 : decode cX5_nextToken 71 = .ok (.aload_n 0, 1) := by decide +kernel
theorem dX5_nextToken_72 : decode cX5_nextToken 72 = .ok (.iconst 1, 1) := by decide +kernel
theorem dX5_nextToken_73 : decode cX5_nextToken 73 = .ok (.putfield 35, 3) := by decide +kernel
theorem dX5_nextToken_76 : decode cX5_nextToken 76 = .ok (.aload_n 0, 1) := by decide +kernel
theorem dX5_nextToken_77 : decode cX5_nextToken 77 = .ok (.aload_n 0, 1) := by decide +kernel
theorem dX5_nextToken_78 : decode cX5_nextToken 78 = .ok (.aload_n 0, 1) := by decide +kernel
theorem dX5_nextToken_79 : decode cX5_nextToken 79 = .ok (.getfield 22, 3) := by decide +kernel
theorem dX5_nextToken_82 : decode cX5_nextToken 82 = .ok (.bipush 97, 2) := by decide +kernel
theorem dX5_nextToken_84 : decode cX5_nextToken 84 = .ok (.bipush 122, 2) := by decide +kernel
theorem dX5_nextToken_86 : decode cX5_nextToken 86 = .ok (.invokevirtual 129, 3) := by decide +kernel
theorem dX5_nextToken_89 : decode cX5_nextToken 89 = .ok (.putfield 32, 3) := by decide +kernel
theorem dX5_nextToken_92 : decode cX5_nextToken 92 = .ok (.goto 87, 3) := by decide +kernel
theorem dX5_nextToken_95 : decode cX5_nextToken 95 = .ok (.aload_n 0, 1) := by decide +kernel
theorem dX5_nextToken_96 : decode cX5_nextToken 96 = .ok (.getfield 25, 3) := by decide +kernel
theorem dX5_nextToken_99 : decode cX5_nextToken 99 = .ok (.aload_n 0, 1) := by decide +kernel
theorem dX5_nextToken_100 : decode cX5_nextToken 100 = .ok (.getfield 22, 3) := by decide +kernel
theorem dX5_nextToken_103 : decode cX5_nextToken 103 = .ok (.iaload, 1) := by decide +kernel
theorem dX5_nextToken_104 : decode cX5_nextToken 104 = .ok (.bipush 48, 2) := by decide +kernel
theorem dX5_nextToken_106 : decode cX5_nextToken 106 = .ok (.if_icmp .lt 40, 3) := by decide +kernel
theorem dX5_nextToken_109 : decode cX5_nextToken 109 = .ok (.aload_n 0, 1) := by decide +kernel
theorem dX5_nextToken_110 : decode cX5_nextToken 110 = .ok (.getfield 25, 3) := by decide +kernel
theorem dX5_nextToken_113 : decode cX5_nextToken 113 = .ok (.aload_n 0, 1) := by decide +kernel
theorem dX5_nextToken_114 : decode cX5_nextToken 114 = .ok (.getfield 22, 3) := by decide +kernel
theorem dX5_nextToken_117 : decode cX5_nextToken 117 = .ok (.iaload, 1) := by decide +kernel
theorem dX5_nextToken_118 : decode cX5_nextToken 118 = .ok (.bipush 57, 2) := by decide +kernel
theorem dX5_nextToken_120 : decode cX5_nextToken 120 = .ok (.if_icmp .gt 26, 3) := by decide +kernel
theorem dX5_nextToken_123 : decode cX5_nextToken 123 = .ok (.aload_n 0, 1) := by decide +kernel
theorem dX5_nextToken_124 : decode cX5_nextToken 124 = .ok (.aload_n 0, 1) := by decide +kernel
theorem dX5_nextToken_125 : decode cX5_nextToken 125 = .ok (.aload_n 0, 1) := by decide +kernel
theorem dX5_nextToken_126 : decode cX5_nextToken 126 = .ok (.getfield 22, 3) := by decide +kernel
theorem dX5_nextToken_129 : decode cX5_nextToken 129 = .ok (.bipush 48, 2) := by decide +kernel
theorem dX5_nextToken_131 : decode cX5_nextToken 131 = .ok (.bipush 57, 2) := by decide +kernel
theorem dX5_nextToken_133 : decode cX5_nextToken 133 = .ok (.invokevirtual 129, 3) := by decide +kernel
theorem dX5_nextToken_136 : decode cX5_nextToken 136 = .ok (.putfield 32, 3) := by decide +kernel
theorem dX5_nextToken_139 : decode cX5_nextToken 139 = .ok (.aload_n 0, 1) := by decide +kernel
theorem dX5_nextToken_140 : decode cX5_nextToken 140 = .ok (.invokevirtual 133, 3) := by decide +kernel
theorem dX5_nextToken_143 : decode cX5_nextToken 143 = .ok (.goto 36, 3) := by decide +kernel
theorem dX5_nextToken_146 : decode cX5_nextToken 146 = .ok (.aload_n 0, 1) := by decide +kernel
theorem dX5_nextToken_147 : decode cX5_nextToken 147 = .ok (.aload_n 0, 1) := by decide +kernel
theorem dX5_nextToken_148 : decode cX5_nextToken 148 = .ok (.getfield 25, 3) := by decide +kernel
theorem dX5_nextToken_151 : decode cX5_nextToken 151 = .ok (.aload_n 0, 1) := by decide +kernel
theorem dX5_nextToken_152 : decode cX5_nextToken 152 = .ok (.getfield 22, 3) := by decide +kernel
theorem dX5_nextToken_155 : decode cX5_nextToken 155 = .ok (.iaload, 1) := by decide +kernel
theorem dX5_nextToken_156 : decode cX5_nextToken 156 = .ok (.bipush 59, 2) := by decide +kernel
theorem dX5_nextToken_158 : decode cX5_nextToken 158 = .ok (.if_icmp .ne 7, 3) := by decide +kernel
theorem dX5_nextToken_161 : decode cX5_nextToken 161 = .ok (.iconst 3, 1) := by decide +kernel
theorem dX5_nextToken_162 : decode cX5_nextToken 162 = .ok (.goto 4, 3) := by decide +kernel
theorem dX5_nextToken_165 : decode cX5_nextToken 165 = .ok (.iconst 4, 1) := by decide +kernel
theorem dX5_nextToken_166 : decode cX5_nextToken 166 = .ok (.putfield 35, 3) := by decide +kernel
theorem dX5_nextToken_169 : decode cX5_nextToken 169 = .ok (.aload_n 0, 1) := by decide +kernel
theorem dX5_nextToken_170 : decode cX5_nextToken 170 = .ok (.aload_n 0, 1) := by decide +kernel
theorem dX5_nextToken_171 : decode cX5_nextToken 171 = .ok (.getfield 22, 3) := by decide +kernel
theorem dX5_nextToken_174 : decode cX5_nextToken 174 = .ok (.iconst 1, 1) := by decide +kernel
theorem dX5_nextToken_175 : decode cX5_nextToken 175 = .ok (.iadd, 1) := by decide +kernel
theorem dX5_nextToken_176 : decode cX5_nextToken 176 = .ok (.putfield 32, 3) := by decide +kernel
theorem dX5_nextToken_179 : decode cX5_nextToken 179 = .ok (.return_, 1) := by decide +kernel
theorem dX5_endOfRun_0 : decode cX5_endOfRun 0 = .ok (.iload_n 1, 1) := by decide +kernel
theorem dX5_endOfRun_1 : decode cX5_endOfRun 1 = .ok (.istore 4, 2) := by decide +kernel
theorem dX5_endOfRun_3 : decode cX5_endOfRun 3 = .ok (.iload 4, 2) := by decide +kernel
theorem dX5_endOfRun_5 : decode cX5_endOfRun 5 = .ok (.aload_n 0, 1) := by decide +kernel
theorem dX5_endOfRun_6 : decode cX5_endOfRun 6 = .ok (.getfield 29, 3) := by decide +kernel
theorem dX5_endOfRun_9 : decode cX5_endOfRun 9 = .ok (.if_icmp .ge 31, 3) := by decide +kernel
theorem dX5_endOfRun_12 : decode cX5_endOfRun 12 = .ok (.aload_n 0, 1) := by decide +kernel
theorem dX5_endOfRun_13 : decode cX5_endOfRun 13 = .ok (.getfield 25, 3) := by decide +kernel
theorem dX5_endOfRun_16 : decode cX5_endOfRun 16 = .ok (.iload 4, 2) := by decide +kernel
theorem dX5_endOfRun_18 : decode cX5_endOfRun 18 = .ok (.iaload, 1) := by decide +kernel
theorem dX5_endOfRun_19 : decode cX5_endOfRun 19 = .ok (.iload_n 2, 1) := by decide +kernel
theorem dX5_endOfRun_20 : decode cX5_endOfRun 20 = .ok (.if_icmp .lt 20, 3) := by decide +kernel
theorem dX5_endOfRun_23 : decode cX5_endOfRun 23 = .ok (.aload_n 0, 1) := by decide +kernel
theorem dX5_endOfRun_24 : decode cX5_endOfRun 24 = .ok (.getfield 25, 3) := by decide +kernel
theorem dX5_endOfRun_27 : decode cX5_endOfRun 27 = .ok (.iload 4, 2) := by decide +kernel
theorem dX5_endOfRun_29 : decode cX5_endOfRun 29 = .ok (.iaload, 1) := by decide +kernel
theorem dX5_endOfRun_30 : decode cX5_endOfRun 30 = .ok (.iload_n 3, 1) := by decide +kernel
theorem dX5_endOfRun_31 : decode cX5_endOfRun 31 = .ok (.if_icmp .gt 9, 3) := by decide +kernel
theorem dX5_endOfRun_34 : decode cX5_endOfRun 34 = .ok (.iinc 4 1, 3) := by decide +kernel
theorem dX5_endOfRun_37 : decode cX5_endOfRun 37 = .ok (.goto (-34), 3) := by decide +kernel
theorem dX5_endOfRun_40 : decode cX5_endOfRun 40 = .ok (.iload 4, 2) := by decide +kernel
theorem dX5_endOfRun_42 : decode cX5_endOfRun 42 = .ok (.ireturn, 1) := by decide +kernel
theorem dX5_takeFigures_0 : decode cX5_takeFigures 0 = .ok (.aload_n 0, 1) := by decide +kernel
theorem dX5_takeFigures_1 : decode cX5_takeFigures 1 = .ok (.aload_n 0, 1) := by decide +kernel
theorem dX5_takeFigures_2 : decode cX5_takeFigures 2 = .ok (.getfield 32, 3) := by decide +kernel
theorem dX5_takeFigures_5 : decode cX5_takeFigures 5 = .ok (.aload_n 0, 1) := by decide +kernel
theorem dX5_takeFigures_6 : decode cX5_takeFigures 6 = .ok (.getfield 22, 3) := by decide +kernel
theorem dX5_takeFigures_9 : decode cX5_takeFigures 9 = .ok (.isub, 1) := by decide +kernel
theorem dX5_takeFigures_10 : decode cX5_takeFigures 10 = .ok (.iconst 2, 1) := by decide +kernel
theorem dX5_takeFigures_11 : decode cX5_takeFigures 11 = .ok (.if_icmp .gt 7, 3) := by decide +kernel
theorem dX5_takeFigures_14 : decode cX5_takeFigures 14 = .ok (.iconst 2, 1) := by decide +kernel
theorem dX5_takeFigures_15 : decode cX5_takeFigures 15 = .ok (.goto 4, 3) := by decide +kernel
theorem dX5_takeFigures_18 : decode cX5_takeFigures 18 = .ok (.iconst 4, 1) := by decide +kernel
theorem dX5_takeFigures_19 : decode cX5_takeFigures 19 = .ok (.putfield 35, 3) := by decide +kernel
theorem dX5_takeFigures_22 : decode cX5_takeFigures 22 = .ok (.aload_n 0, 1) := by decide +kernel
theorem dX5_takeFigures_23 : decode cX5_takeFigures 23 = .ok (.iconst 0, 1) := by decide +kernel
theorem dX5_takeFigures_24 : decode cX5_takeFigures 24 = .ok (.putfield 38, 3) := by decide +kernel
theorem dX5_takeFigures_27 : decode cX5_takeFigures 27 = .ok (.aload_n 0, 1) := by decide +kernel
theorem dX5_takeFigures_28 : decode cX5_takeFigures 28 = .ok (.getfield 22, 3) := by decide +kernel
theorem dX5_takeFigures_31 : decode cX5_takeFigures 31 = .ok (.istore_n 1, 1) := by decide +kernel
theorem dX5_takeFigures_32 : decode cX5_takeFigures 32 = .ok (.iload_n 1, 1) := by decide +kernel
theorem dX5_takeFigures_33 : decode cX5_takeFigures 33 = .ok (.aload_n 0, 1) := by decide +kernel
theorem dX5_takeFigures_34 : decode cX5_takeFigures 34 = .ok (.getfield 32, 3) := by decide +kernel
theorem dX5_takeFigures_37 : decode cX5_takeFigures 37 = .ok (.if_icmp .ge 40, 3) := by decide +kernel
theorem dX5_takeFigures_40 : decode cX5_takeFigures 40 = .ok (.iload_n 1, 1) := by decide +kernel
theorem dX5_takeFigures_41 : decode cX5_takeFigures 41 = .ok (.aload_n 0, 1) := by decide +kernel
theorem dX5_takeFigures_42 : decode cX5_takeFigures 42 = .ok (.getfield 22, 3) := by decide +kernel
theorem dX5_takeFigures_45 : decode cX5_takeFigures 45 = .ok (.iconst 2, 1) := by decide +kernel
theorem dX5_takeFigures_46 : decode cX5_takeFigures 46 = .ok (.iadd, 1) := by decide +kernel
theorem dX5_takeFigures_47 : decode cX5_takeFigures 47 = .ok (.if_icmp .ge 30, 3) := by decide +kernel
theorem dX5_takeFigures_50 : decode cX5_takeFigures 50 = .ok (.aload_n 0, 1) := by decide +kernel
theorem dX5_takeFigures_51 : decode cX5_takeFigures 51 = .ok (.bipush 10, 2) := by decide +kernel
theorem dX5_takeFigures_53 : decode cX5_takeFigures 53 = .ok (.aload_n 0, 1) := by decide +kernel
theorem dX5_takeFigures_54 : decode cX5_takeFigures 54 = .ok (.getfield 38, 3) := by decide +kernel
theorem dX5_takeFigures_57 : decode cX5_takeFigures 57 = .ok (.imul, 1) := by decide +kernel
theorem dX5_takeFigures_58 : decode cX5_takeFigures 58 = .ok (.aload_n 0, 1) := by decide +kernel
theorem dX5_takeFigures_59 : decode cX5_takeFigures 59 = .ok (.getfield 25, 3) := by decide +kernel
theorem dX5_takeFigures_62 : decode cX5_takeFigures 62 = .ok (.iload_n 1, 1) := by decide +kernel
theorem dX5_takeFigures_63 : decode cX5_takeFigures 63 = .ok (.iaload, 1) := by decide +kernel
theorem dX5_takeFigures_64 : decode cX5_takeFigures 64 = .ok (.iadd, 1) := by decide +kernel
theorem dX5_takeFigures_65 : decode cX5_takeFigures 65 = .ok (.bipush 48, 2) := by decide +kernel
theorem dX5_takeFigures_67 : decode cX5_takeFigures 67 = .ok (.isub, 1) := by decide +kernel
theorem dX5_takeFigures_68 : decode cX5_takeFigures 68 = .ok (.putfield 38, 3) := by decide +kernel
theorem dX5_takeFigures_71 : decode cX5_takeFigures 71 = .ok (.iinc 1 1, 3) := by decide +kernel
theorem dX5_takeFigures_74 : decode cX5_takeFigures 74 = .ok (.goto (-42), 3) := by decide +kernel
theorem dX5_takeFigures_77 : decode cX5_takeFigures 77 = .ok (.return_, 1) := by decide +kernel
theorem dX5_isWord_0 : decode cX5_isWord 0 = .ok (.aload_n 0, 1) := by decide +kernel
theorem dX5_isWord_1 : decode cX5_isWord 1 = .ok (.getfield 32, 3) := by decide +kernel
theorem dX5_isWord_4 : decode cX5_isWord 4 = .ok (.aload_n 0, 1) := by decide +kernel
theorem dX5_isWord_5 : decode cX5_isWord 5 = .ok (.getfield 22, 3) := by decide +kernel
theorem dX5_isWord_8 : decode cX5_isWord 8 = .ok (.isub, 1) := by decide +kernel
theorem dX5_isWord_9 : decode cX5_isWord 9 = .ok (.aload_n 1, 1) := by decide +kernel
theorem dX5_isWord_10 : decode cX5_isWord 10 = .ok (.invokevirtual 136, 3) := by decide +kernel
theorem dX5_isWord_13 : decode cX5_isWord 13 = .ok (.if_icmp .eq 5, 3) := by decide +kernel
theorem dX5_isWord_16 : decode cX5_isWord 16 = .ok (.iconst 0, 1) := by decide +kernel
theorem dX5_isWord_17 : decode cX5_isWord 17 = .ok (.ireturn, 1) := by decide +kernel
theorem dX5_isWord_18 : decode cX5_isWord 18 = .ok (.iconst 0, 1) := by decide +kernel
theorem dX5_isWord_19 : decode cX5_isWord 19 = .ok (.istore_n 2, 1) := by decide +kernel
theorem dX5_isWord_20 : decode cX5_isWord 20 = .ok (.iload_n 2, 1) := by decide +kernel
theorem dX5_isWord_21 : decode cX5_isWord 21 = .ok (.aload_n 1, 1) := by decide +kernel
theorem dX5_isWord_22 : decode cX5_isWord 22 = .ok (.invokevirtual 136, 3) := by decide +kernel
theorem dX5_isWord_25 : decode cX5_isWord 25 = .ok (.if_icmp .ge 30, 3) := by decide +kernel
theorem dX5_isWord_28 : decode cX5_isWord 28 = .ok (.aload_n 0, 1) := by decide +kernel
theorem dX5_isWord_29 : decode cX5_isWord 29 = .ok (.getfield 25, 3) := by decide +kernel
theorem dX5_isWord_32 : decode cX5_isWord 32 = .ok (.aload_n 0, 1) := by decide +kernel
theorem dX5_isWord_33 : decode cX5_isWord 33 = .ok (.getfield 22, 3) := by decide +kernel
theorem dX5_isWord_36 : decode cX5_isWord 36 = .ok (.iload_n 2, 1) := by decide +kernel
theorem dX5_isWord_37 : decode cX5_isWord 37 = .ok (.iadd, 1) := by decide +kernel
theorem dX5_isWord_38 : decode cX5_isWord 38 = .ok (.iaload, 1) := by decide +kernel
theorem dX5_isWord_39 : decode cX5_isWord 39 = .ok (.aload_n 1, 1) := by decide +kernel
theorem dX5_isWord_40 : decode cX5_isWord 40 = .ok (.iload_n 2, 1) := by decide +kernel
theorem dX5_isWord_41 : decode cX5_isWord 41 = .ok (.invokevirtual 141, 3) := by decide +kernel
theorem dX5_isWord_44 : decode cX5_isWord 44 = .ok (.if_icmp .eq 5, 3) := by decide +kernel
theorem dX5_isWord_47 : decode cX5_isWord 47 = .ok (.iconst 0, 1) := by decide +kernel
theorem dX5_isWord_48 : decode cX5_isWord 48 = .ok (.ireturn, 1) := by decide +kernel
theorem dX5_isWord_49 : decode cX5_isWord 49 = .ok (.iinc 2 1, 3) := by decide +kernel
theorem dX5_isWord_52 : decode cX5_isWord 52 = .ok (.goto (-32), 3) := by decide +kernel
theorem dX5_isWord_55 : decode cX5_isWord 55 = .ok (.iconst 1, 1) := by decide +kernel
theorem dX5_isWord_56 : decode cX5_isWord 56 = .ok (.ireturn, 1) := by decide +kernel
theorem dX6_init_0 : decode cX6_init 0 = .ok (.aload_n 0, 1) := by decide +kernel
theorem dX6_init_1 : decode cX6_init 1 = .ok (.invokespecial 5, 3) := by decide +kernel
theorem dX6_init_4 : decode cX6_init 4 = .ok (.aload_n 0, 1) := by decide +kernel
theorem dX6_init_5 : decode cX6_init 5 = .ok (.iconst 0, 1) := by decide +kernel
theorem dX6_init_6 : decode cX6_init 6 = .ok (.putfield 11, 3) := by decide +kernel
theorem dX6_init_9 : decode cX6_init 9 = .ok (.aload_n 0, 1) := by decide +kernel
theorem dX6_init_10 : decode cX6_init 10 = .ok (.iconst 0, 1) := by decide +kernel
theorem dX6_init_11 : decode cX6_init 11 = .ok (.putfield 15, 3) := by decide +kernel
theorem dX6_init_14 : decode cX6_init 14 = .ok (.aload_n 0, 1) := by decide +kernel
theorem dX6_init_15 : decode cX6_init 15 = .ok (.iconst 4, 1) := by decide +kernel
theorem dX6_init_16 : decode cX6_init 16 = .ok (.newarray .int, 2) := by decide +kernel
theorem dX6_init_18 : decode cX6_init 18 = .ok (.putfield 18, 3) := by decide +kernel
theorem dX6_init_21 : decode cX6_init 21 = .ok (.aload_n 0, 1) := by decide +kernel
theorem dX6_init_22 : decode cX6_init 22 = .ok (.iconst 4, 1) := by decide +kernel
theorem dX6_init_23 : decode cX6_init 23 = .ok (.newarray .boolean, 2) := by decide +kernel
theorem dX6_init_25 : decode cX6_init 25 = .ok (.putfield 22, 3) := by decide +kernel
theorem dX6_init_28 : decode cX6_init 28 = .ok (.aload_n 0, 1) := by decide +kernel
theorem dX6_init_29 : decode cX6_init 29 = .ok (.bipush 20, 2) := by decide +kernel
theorem dX6_init_31 : decode cX6_init 31 = .ok (.newarray .int, 2) := by decide +kernel
theorem dX6_init_33 : decode cX6_init 33 = .ok (.putfield 26, 3) := by decide +kernel
theorem dX6_init_36 : decode cX6_init 36 = .ok (.aload_n 0, 1) := by decide +kernel
theorem dX6_init_37 : decode cX6_init 37 = .ok (.bipush 25, 2) := by decide +kernel
theorem dX6_init_39 : decode cX6_init 39 = .ok (.newarray .int, 2) := by decide +kernel
theorem dX6_init_41 : decode cX6_init 41 = .ok (.putfield 29, 3) := by decide +kernel
theorem dX6_init_44 : decode cX6_init 44 = .ok (.aload_n 0, 1) := by decide +kernel
theorem dX6_init_45 : decode cX6_init 45 = .ok (.bipush 25, 2) := by decide +kernel
theorem dX6_init_47 : decode cX6_init 47 = .ok (.newarray .int, 2) := by decide +kernel
theorem dX6_init_49 : decode cX6_init 49 = .ok (.putfield 32, 3) := by decide +kernel
theorem dX6_init_52 : decode cX6_init 52 = .ok (.aload_n 0, 1) := by decide +kernel
theorem dX6_init_53 : decode cX6_init 53 = .ok (.iconst 5, 1) := by decide +kernel
theorem dX6_init_54 : decode cX6_init 54 = .ok (.newarray .int, 2) := by decide +kernel
theorem dX6_init_56 : decode cX6_init 56 = .ok (.putfield 35, 3) := by decide +kernel
theorem dX6_init_59 : decode cX6_init 59 = .ok (.aload_n 0, 1) := by decide +kernel
theorem dX6_init_60 : decode cX6_init 60 = .ok (.aload_n 1, 1) := by decide +kernel
theorem dX6_init_61 : decode cX6_init 61 = .ok (.putfield 38, 3) := by decide +kernel
theorem dX6_init_64 : decode cX6_init 64 = .ok (.return_, 1) := by decide +kernel
theorem dX6_learn_0 : decode cX6_learn 0 = .ok (.aload_n 0, 1) := by decide +kernel
theorem dX6_learn_1 : decode cX6_learn 1 = .ok (.aload_n 1, 1) := by decide +kernel
theorem dX6_learn_2 : decode cX6_learn 2 = .ok (.getfield 42, 3) := by decide +kernel
theorem dX6_learn_5 : decode cX6_learn 5 = .ok (.putfield 11, 3) := by decide +kernel
theorem dX6_learn_8 : decode cX6_learn 8 = .ok (.aload_n 0, 1) := by decide +kernel
theorem dX6_learn_9 : decode cX6_learn 9 = .ok (.aload_n 1, 1) := by decide +kernel
theorem dX6_learn_10 : decode cX6_learn 10 = .ok (.getfield 45, 3) := by decide +kernel
theorem dX6_learn_13 : decode cX6_learn 13 = .ok (.putfield 15, 3) := by decide +kernel
theorem dX6_learn_16 : decode cX6_learn 16 = .ok (.iconst 0, 1) := by decide +kernel
theorem dX6_learn_17 : decode cX6_learn 17 = .ok (.istore_n 2, 1) := by decide +kernel
theorem dX6_learn_18 : decode cX6_learn 18 = .ok (.iload_n 2, 1) := by decide +kernel
theorem dX6_learn_19 : decode cX6_learn 19 = .ok (.aload_n 0, 1) := by decide +kernel
theorem dX6_learn_20 : decode cX6_learn 20 = .ok (.getfield 15, 3) := by decide +kernel
theorem dX6_learn_23 : decode cX6_learn 23 = .ok (.if_icmp .ge 74, 3) := by decide +kernel
theorem dX6_learn_26 : decode cX6_learn 26 = .ok (.aload_n 1, 1) := by decide +kernel
theorem dX6_learn_27 : decode cX6_learn 27 = .ok (.getfield 46, 3) := by decide +kernel
theorem dX6_learn_30 : decode cX6_learn 30 = .ok (.iload_n 2, 1) := by decide +kernel
theorem dX6_learn_31 : decode cX6_learn 31 = .ok (.iaload, 1) := by decide +kernel
theorem dX6_learn_32 : decode cX6_learn 32 = .ok (.istore_n 3, 1) := by decide +kernel
theorem dX6_learn_33 : decode cX6_learn 33 = .ok (.aload_n 0, 1) := by decide +kernel
theorem dX6_learn_34 : decode cX6_learn 34 = .ok (.getfield 18, 3) := by decide +kernel
theorem dX6_learn_37 : decode cX6_learn 37 = .ok (.iload_n 2, 1) := by decide +kernel
theorem dX6_learn_38 : decode cX6_learn 38 = .ok (.iload_n 3, 1) := by decide +kernel
theorem dX6_learn_39 : decode cX6_learn 39 = .ok (.iastore, 1) := by decide +kernel
theorem dX6_learn_40 : decode cX6_learn 40 = .ok (.aload_n 0, 1) := by decide +kernel
theorem dX6_learn_41 : decode cX6_learn 41 = .ok (.getfield 22, 3) := by decide +kernel
theorem dX6_learn_44 : decode cX6_learn 44 = .ok (.iload_n 2, 1) := by decide +kernel
theorem dX6_learn_45 : decode cX6_learn 45 = .ok (.aload_n 0, 1) := by decide +kernel
theorem dX6_learn_46 : decode cX6_learn 46 = .ok (.aload_n 1, 1) := by decide +kernel
theorem dX6_learn_47 : decode cX6_learn 47 = .ok (.iload_n 2, 1) := by decide +kernel
theorem dX6_learn_48 : decode cX6_learn 48 = .ok (.iload_n 3, 1) := by decide +kernel
theorem dX6_learn_49 : decode cX6_learn 49 = .ok (.iconst 0, 1) := by decide +kernel
theorem dX6_learn_50 : decode cX6_learn 50 = .ok (.invokevirtual 49, 3) := by decide +kernel
theorem dX6_learn_53 : decode cX6_learn 53 = .ok (.bastore, 1) := by decide +kernel
theorem dX6_learn_54 : decode cX6_learn 54 = .ok (.iconst 0, 1) := by decide +kernel
theorem dX6_learn_55 : decode cX6_learn 55 = .ok (.istore 4, 2) := by decide +kernel
theorem dX6_learn_57 : decode cX6_learn 57 = .ok (.iload 4, 2) := by decide +kernel
theorem dX6_learn_59 : decode cX6_learn 59 = .ok (.aload_n 0, 1) := by decide +kernel
theorem dX6_learn_60 : decode cX6_learn 60 = .ok (.getfield 11, 3) := by decide +kernel
theorem dX6_learn_63 : decode cX6_learn 63 = .ok (.if_icmp .ge 28, 3) := by decide +kernel
theorem dX6_learn_66 : decode cX6_learn 66 = .ok (.aload_n 0, 1) := by decide +kernel
theorem dX6_learn_67 : decode cX6_learn 67 = .ok (.getfield 26, 3) := by decide +kernel
theorem dX6_learn_70 : decode cX6_learn 70 = .ok (.iload_n 2, 1) := by decide +kernel
theorem dX6_learn_71 : decode cX6_learn 71 = .ok (.iconst 5, 1) := by decide +kernel
theorem dX6_learn_72 : decode cX6_learn 72 = .ok (.imul, 1) := by decide +kernel
theorem dX6_learn_73 : decode cX6_learn 73 = .ok (.iload 4, 2) := by decide +kernel
theorem dX6_learn_75 : decode cX6_learn 75 = .ok (.iadd, 1) := by decide +kernel
theorem dX6_learn_76 : decode cX6_learn 76 = .ok (.aload_n 0, 1) := by decide +kernel
theorem dX6_learn_77 : decode cX6_learn 77 = .ok (.aload_n 1, 1) := by decide +kernel
theorem dX6_learn_78 : decode cX6_learn 78 = .ok (.iload_n 2, 1) := by decide +kernel
theorem dX6_learn_79 : decode cX6_learn 79 = .ok (.iload 4, 2) := by decide +kernel
theorem dX6_learn_81 : decode cX6_learn 81 = .ok (.invokevirtual 53, 3) := by decide +kernel
theorem dX6_learn_84 : decode cX6_learn 84 = .ok (.iastore, 1) := by decide +kernel
theorem dX6_learn_85 : decode cX6_learn 85 = .ok (.iinc 4 1, 3) := by decide +kernel
theorem dX6_learn_88 : decode cX6_learn 88 = .ok (.goto (-31), 3) := by decide +kernel
theorem dX6_learn_91 : decode cX6_learn 91 = .ok (.iinc 2 1, 3) := by decide +kernel
theorem dX6_learn_94 : decode cX6_learn 94 = .ok (.goto (-76), 3) := by decide +kernel
theorem dX6_learn_97 : decode cX6_learn 97 = .ok (.return_, 1) := by decide +kernel
theorem dX6_sumsFor_0 : decode cX6_sumsFor 0 = .ok (.iconst 0, 1) := by decide +kernel
theorem dX6_sumsFor_1 : decode cX6_sumsFor 1 = .ok (.istore 4, 2) := by decide +kernel
theorem dX6_sumsFor_3 : decode cX6_sumsFor 3 = .ok (.iconst 0, 1) := by decide +kernel
theorem dX6_sumsFor_4 : decode cX6_sumsFor 4 = .ok (.istore 5, 2) := by decide +kernel
theorem dX6_sumsFor_6 : decode cX6_sumsFor 6 = .ok (.iload 5, 2) := by decide +kernel
theorem dX6_sumsFor_8 : decode cX6_sumsFor 8 = .ok (.bipush 19, 2) := by decide +kernel
theorem dX6_sumsFor_10 : decode cX6_sumsFor 10 = .ok (.if_icmp .ge 30, 3) := by decide +kernel
theorem dX6_sumsFor_13 : decode cX6_sumsFor 13 = .ok (.aload_n 0, 1) := by decide +kernel
theorem dX6_sumsFor_14 : decode cX6_sumsFor 14 = .ok (.aload_n 1, 1) := by decide +kernel
theorem dX6_sumsFor_15 : decode cX6_sumsFor 15 = .ok (.iload_n 2, 1) := by decide +kernel
theorem dX6_sumsFor_16 : decode cX6_sumsFor 16 = .ok (.iload_n 3, 1) := by decide +kernel
theorem dX6_sumsFor_17 : decode cX6_sumsFor 17 = .ok (.iload 5, 2) := by decide +kernel
theorem dX6_sumsFor_19 : decode cX6_sumsFor 19 = .ok (.invokevirtual 49, 3) := by decide +kernel
theorem dX6_sumsFor_22 : decode cX6_sumsFor 22 = .ok (.ifCond .eq 12, 3) := by decide +kernel
theorem dX6_sumsFor_25 : decode cX6_sumsFor 25 = .ok (.iload 4, 2) := by decide +kernel
theorem dX6_sumsFor_27 : decode cX6_sumsFor 27 = .ok (.iconst 1, 1) := by decide +kernel
theorem dX6_sumsFor_28 : decode cX6_sumsFor 28 = .ok (.iload 5, 2) := by decide +kernel
theorem dX6_sumsFor_30 : decode cX6_sumsFor 30 = .ok (.ishl, 1) := by decide +kernel
theorem dX6_sumsFor_31 : decode cX6_sumsFor 31 = .ok (.ior, 1) := by decide +kernel
theorem dX6_sumsFor_32 : decode cX6_sumsFor 32 = .ok (.istore 4, 2) := by decide +kernel
theorem dX6_sumsFor_34 : decode cX6_sumsFor 34 = .ok (.iinc 5 1, 3) := by decide +kernel
theorem dX6_sumsFor_37 : decode cX6_sumsFor 37 = .ok (.goto (-31), 3) := by decide +kernel
theorem dX6_sumsFor_40 : decode cX6_sumsFor 40 = .ok (.iload 4, 2) := by decide +kernel
theorem dX6_sumsFor_42 : decode cX6_sumsFor 42 = .ok (.ireturn, 1) := by decide +kernel
theorem dX6_isSo_0 : decode cX6_isSo 0 = .ok (.iconst 0, 1) := by decide +kernel
theorem dX6_isSo_1 : decode cX6_isSo 1 = .ok (.aload_n 1, 1) := by decide +kernel
theorem dX6_isSo_2 : decode cX6_isSo 2 = .ok (.getfield 57, 3) := by decide +kernel
theorem dX6_isSo_5 : decode cX6_isSo 5 = .ok (.iload_n 2, 1) := by decide +kernel
theorem dX6_isSo_6 : decode cX6_isSo 6 = .ok (.iaload, 1) := by decide +kernel
theorem dX6_isSo_7 : decode cX6_isSo 7 = .ok (.iload 4, 2) := by decide +kernel
theorem dX6_isSo_9 : decode cX6_isSo 9 = .ok (.isub, 1) := by decide +kernel
theorem dX6_isSo_10 : decode cX6_isSo 10 = .ok (.invokestatic 60, 3) := by decide +kernel
theorem dX6_isSo_13 : decode cX6_isSo 13 = .ok (.istore 5, 2) := by decide +kernel
theorem dX6_isSo_15 : decode cX6_isSo 15 = .ok (.aload_n 0, 1) := by decide +kernel
theorem dX6_isSo_16 : decode cX6_isSo 16 = .ok (.getfield 38, 3) := by decide +kernel
theorem dX6_isSo_19 : decode cX6_isSo 19 = .ok (.aload_n 1, 1) := by decide +kernel
theorem dX6_isSo_20 : decode cX6_isSo 20 = .ok (.getfield 66, 3) := by decide +kernel
theorem dX6_isSo_23 : decode cX6_isSo 23 = .ok (.iload_n 3, 1) := by decide +kernel
theorem dX6_isSo_24 : decode cX6_isSo 24 = .ok (.iaload, 1) := by decide +kernel
theorem dX6_isSo_25 : decode cX6_isSo 25 = .ok (.invokevirtual 69, 3) := by decide +kernel
theorem dX6_isSo_28 : decode cX6_isSo 28 = .ok (.iconst 0, 1) := by decide +kernel
theorem dX6_isSo_29 : decode cX6_isSo 29 = .ok (.iload 5, 2) := by decide +kernel
theorem dX6_isSo_31 : decode cX6_isSo 31 = .ok (.aload_n 1, 1) := by decide +kernel
theorem dX6_isSo_32 : decode cX6_isSo 32 = .ok (.getfield 75, 3) := by decide +kernel
theorem dX6_isSo_35 : decode cX6_isSo 35 = .ok (.iload_n 3, 1) := by decide +kernel
theorem dX6_isSo_36 : decode cX6_isSo 36 = .ok (.iaload, 1) := by decide +kernel
theorem dX6_isSo_37 : decode cX6_isSo 37 = .ok (.invokevirtual 78, 3) := by decide +kernel
theorem dX6_isSo_40 : decode cX6_isSo 40 = .ok (.istore 6, 2) := by decide +kernel
theorem dX6_isSo_42 : decode cX6_isSo 42 = .ok (.iload 6, 2) := by decide +kernel
theorem dX6_isSo_44 : decode cX6_isSo 44 = .ok (.aload_n 1, 1) := by decide +kernel
theorem dX6_isSo_45 : decode cX6_isSo 45 = .ok (.getfield 84, 3) := by decide +kernel
theorem dX6_isSo_48 : decode cX6_isSo 48 = .ok (.iload_n 2, 1) := by decide +kernel
theorem dX6_isSo_49 : decode cX6_isSo 49 = .ok (.iaload, 1) := by decide +kernel
theorem dX6_isSo_50 : decode cX6_isSo 50 = .ok (.iload_n 3, 1) := by decide +kernel
theorem dX6_isSo_51 : decode cX6_isSo 51 = .ok (.invokestatic 87, 3) := by decide +kernel
theorem dX6_isSo_54 : decode cX6_isSo 54 = .ok (.if_icmp .ne 7, 3) := by decide +kernel
theorem dX6_isSo_57 : decode cX6_isSo 57 = .ok (.iconst 1, 1) := by decide +kernel
theorem dX6_isSo_58 : decode cX6_isSo 58 = .ok (.goto 4, 3) := by decide +kernel
theorem dX6_isSo_61 : decode cX6_isSo 61 = .ok (.iconst 0, 1) := by decide +kernel
theorem dX6_isSo_62 : decode cX6_isSo 62 = .ok (.ireturn, 1) := by decide +kernel
theorem dX6_fewestGivenUp_0 : decode cX6_fewestGivenUp 0 = .ok (.iconst 1, 1) := by decide +kernel
theorem dX6_fewestGivenUp_1 : decode cX6_fewestGivenUp 1 = .ok (.aload_n 0, 1) := by decide +kernel
theorem dX6_fewestGivenUp_2 : decode cX6_fewestGivenUp 2 = .ok (.getfield 15, 3) := by decide +kernel
theorem dX6_fewestGivenUp_5 : decode cX6_fewestGivenUp 5 = .ok (.ishl, 1) := by decide +kernel
theorem dX6_fewestGivenUp_6 : decode cX6_fewestGivenUp 6 = .ok (.iconst 1, 1) := by decide +kernel
theorem dX6_fewestGivenUp_7 : decode cX6_fewestGivenUp 7 = .ok (.isub, 1) := by decide +kernel
theorem dX6_fewestGivenUp_8 : decode cX6_fewestGivenUp 8 = .ok (.istore_n 1, 1) := by decide +kernel
theorem dX6_fewestGivenUp_9 : decode cX6_fewestGivenUp 9 = .ok (.iconst 0, 1) := by decide +kernel
theorem dX6_fewestGivenUp_10 : decode cX6_fewestGivenUp 10 = .ok (.istore_n 2, 1) := by decide +kernel
theorem dX6_fewestGivenUp_11 : decode cX6_fewestGivenUp 11 = .ok (.iload_n 2, 1) := by decide +kernel
theorem dX6_fewestGivenUp_12 : decode cX6_fewestGivenUp 12 = .ok (.iconst 1, 1) := by decide +kernel
theorem dX6_fewestGivenUp_13 : decode cX6_fewestGivenUp 13 = .ok (.aload_n 0, 1) := by decide +kernel
theorem dX6_fewestGivenUp_14 : decode cX6_fewestGivenUp 14 = .ok (.getfield 15, 3) := by decide +kernel
theorem dX6_fewestGivenUp_17 : decode cX6_fewestGivenUp 17 = .ok (.ishl, 1) := by decide +kernel
theorem dX6_fewestGivenUp_18 : decode cX6_fewestGivenUp 18 = .ok (.if_icmp .ge 44, 3) := by decide +kernel
theorem dX6_fewestGivenUp_21 : decode cX6_fewestGivenUp 21 = .ok (.iload_n 2, 1) := by decide +kernel
theorem dX6_fewestGivenUp_22 : decode cX6_fewestGivenUp 22 = .ok (.ifCond .eq 14, 3) := by decide +kernel
theorem dX6_fewestGivenUp_25 : decode cX6_fewestGivenUp 25 = .ok (.iload_n 2, 1) := by decide +kernel
theorem dX6_fewestGivenUp_26 : decode cX6_fewestGivenUp 26 = .ok (.invokestatic 91, 3) := by decide +kernel
theorem dX6_fewestGivenUp_29 : decode cX6_fewestGivenUp 29 = .ok (.iload_n 1, 1) := by decide +kernel
theorem dX6_fewestGivenUp_30 : decode cX6_fewestGivenUp 30 = .ok (.invokestatic 91, 3) := by decide +kernel
theorem dX6_fewestGivenUp_33 : decode cX6_fewestGivenUp 33 = .ok (.if_icmp .ge 7, 3) := by decide +kernel
theorem dX6_fewestGivenUp_36 : decode cX6_fewestGivenUp 36 = .ok (.iconst 1, 1) := by decide +kernel
theorem dX6_fewestGivenUp_37 : decode cX6_fewestGivenUp 37 = .ok (.goto 4, 3) := by decide +kernel
theorem dX6_fewestGivenUp_40 : decode cX6_fewestGivenUp 40 = .ok (.iconst 0, 1) := by decide +kernel
theorem dX6_fewestGivenUp_41 : decode cX6_fewestGivenUp 41 = .ok (.istore_n 3, 1) := by decide +kernel
theorem dX6_fewestGivenUp_42 : decode cX6_fewestGivenUp 42 = .ok (.iload_n 3, 1) := by decide +kernel
theorem dX6_fewestGivenUp_43 : decode cX6_fewestGivenUp 43 = .ok (.ifCond .eq 13, 3) := by decide +kernel
theorem dX6_fewestGivenUp_46 : decode cX6_fewestGivenUp 46 = .ok (.aload_n 0, 1) := by decide +kernel
theorem dX6_fewestGivenUp_47 : decode cX6_fewestGivenUp 47 = .ok (.iload_n 2, 1) := by decide +kernel
theorem dX6_fewestGivenUp_48 : decode cX6_fewestGivenUp 48 = .ok (.invokevirtual 97, 3) := by decide +kernel
theorem dX6_fewestGivenUp_51 : decode cX6_fewestGivenUp 51 = .ok (.ifCond .eq 5, 3) := by decide +kernel
theorem dX6_fewestGivenUp_54 : decode cX6_fewestGivenUp 54 = .ok (.iload_n 2, 1) := by decide +kernel
theorem dX6_fewestGivenUp_55 : decode cX6_fewestGivenUp 55 = .ok (.istore_n 1, 1) := by decide +kernel
theorem dX6_fewestGivenUp_56 : decode cX6_fewestGivenUp 56 = .ok (.iinc 2 1, 3) := by decide +kernel
theorem dX6_fewestGivenUp_59 : decode cX6_fewestGivenUp 59 = .ok (.goto (-48), 3) := by decide +kernel
theorem dX6_fewestGivenUp_62 : decode cX6_fewestGivenUp 62 = .ok (.iload_n 1, 1) := by decide +kernel
theorem dX6_fewestGivenUp_63 : decode cX6_fewestGivenUp 63 = .ok (.ireturn, 1) := by decide +kernel
theorem dX6_fitsWithout_0 : decode cX6_fitsWithout 0 = .ok (.iconst 0, 1) := by decide +kernel
theorem dX6_fitsWithout_1 : decode cX6_fitsWithout 1 = .ok (.istore_n 2, 1) := by decide +kernel
theorem dX6_fitsWithout_2 : decode cX6_fitsWithout 2 = .ok (.iload_n 2, 1) := by decide +kernel
theorem dX6_fitsWithout_3 : decode cX6_fitsWithout 3 = .ok (.bipush 25, 2) := by decide +kernel
theorem dX6_fitsWithout_5 : decode cX6_fitsWithout 5 = .ok (.if_icmp .ge 17, 3) := by decide +kernel
theorem dX6_fitsWithout_8 : decode cX6_fitsWithout 8 = .ok (.aload_n 0, 1) := by decide +kernel
theorem dX6_fitsWithout_9 : decode cX6_fitsWithout 9 = .ok (.getfield 29, 3) := by decide +kernel
theorem dX6_fitsWithout_12 : decode cX6_fitsWithout 12 = .ok (.iload_n 2, 1) := by decide +kernel
theorem dX6_fitsWithout_13 : decode cX6_fitsWithout 13 = .ok (.ldc 101, 2) := by decide +kernel
theorem dX6_fitsWithout_15 : decode cX6_fitsWithout 15 = .ok (.iastore, 1) := by decide +kernel
theorem dX6_fitsWithout_16 : decode cX6_fitsWithout 16 = .ok (.iinc 2 1, 3) := by decide +kernel
theorem dX6_fitsWithout_19 : decode cX6_fitsWithout 19 = .ok (.goto (-17), 3) := by decide +kernel
theorem dX6_fitsWithout_22 : decode cX6_fitsWithout 22 = .ok (.iconst 0, 1) := by decide +kernel
theorem dX6_fitsWithout_23 : decode cX6_fitsWithout 23 = .ok (.istore_n 2, 1) := by decide +kernel
theorem dX6_fitsWithout_24 : decode cX6_fitsWithout 24 = .ok (.iload_n 2, 1) := by decide +kernel
theorem dX6_fitsWithout_25 : decode cX6_fitsWithout 25 = .ok (.aload_n 0, 1) := by decide +kernel
theorem dX6_fitsWithout_26 : decode cX6_fitsWithout 26 = .ok (.getfield 15, 3) := by decide +kernel
theorem dX6_fitsWithout_29 : decode cX6_fitsWithout 29 = .ok (.if_icmp .ge 36, 3) := by decide +kernel
theorem dX6_fitsWithout_32 : decode cX6_fitsWithout 32 = .ok (.iload_n 1, 1) := by decide +kernel
theorem dX6_fitsWithout_33 : decode cX6_fitsWithout 33 = .ok (.iload_n 2, 1) := by decide +kernel
theorem dX6_fitsWithout_34 : decode cX6_fitsWithout 34 = .ok (.invokestatic 87, 3) := by decide +kernel
theorem dX6_fitsWithout_37 : decode cX6_fitsWithout 37 = .ok (.ifCond .eq 6, 3) := by decide +kernel
theorem dX6_fitsWithout_40 : decode cX6_fitsWithout 40 = .ok (.goto 19, 3) := by decide +kernel
theorem dX6_fitsWithout_43 : decode cX6_fitsWithout 43 = .ok (.aload_n 0, 1) := by decide +kernel
theorem dX6_fitsWithout_44 : decode cX6_fitsWithout 44 = .ok (.getfield 22, 3) := by decide +kernel
theorem dX6_fitsWithout_47 : decode cX6_fitsWithout 47 = .ok (.iload_n 2, 1) := by decide +kernel
theorem dX6_fitsWithout_48 : decode cX6_fitsWithout 48 = .ok (.baload, 1) := by decide +kernel
theorem dX6_fitsWithout_49 : decode cX6_fitsWithout 49 = .ok (.ifCond .ne 5, 3) := by decide +kernel
theorem dX6_fitsWithout_52 : decode cX6_fitsWithout 52 = .ok (.iconst 0, 1) := by decide +kernel
theorem dX6_fitsWithout_53 : decode cX6_fitsWithout 53 = .ok (.ireturn, 1) := by decide +kernel
theorem dX6_fitsWithout_54 : decode cX6_fitsWithout 54 = .ok (.aload_n 0, 1) := by decide +kernel
theorem dX6_fitsWithout_55 : decode cX6_fitsWithout 55 = .ok (.iload_n 2, 1) := by decide +kernel
theorem dX6_fitsWithout_56 : decode cX6_fitsWithout 56 = .ok (.invokevirtual 102, 3) := by decide +kernel
theorem dX6_fitsWithout_59 : decode cX6_fitsWithout 59 = .ok (.iinc 2 1, 3) := by decide +kernel
theorem dX6_fitsWithout_62 : decode cX6_fitsWithout 62 = .ok (.goto (-38), 3) := by decide +kernel
theorem dX6_fitsWithout_65 : decode cX6_fitsWithout 65 = .ok (.iconst 0, 1) := by decide +kernel
theorem dX6_fitsWithout_66 : decode cX6_fitsWithout 66 = .ok (.istore_n 2, 1) := by decide +kernel
theorem dX6_fitsWithout_67 : decode cX6_fitsWithout 67 = .ok (.iload_n 2, 1) := by decide +kernel
theorem dX6_fitsWithout_68 : decode cX6_fitsWithout 68 = .ok (.aload_n 0, 1) := by decide +kernel
theorem dX6_fitsWithout_69 : decode cX6_fitsWithout 69 = .ok (.getfield 11, 3) := by decide +kernel
theorem dX6_fitsWithout_72 : decode cX6_fitsWithout 72 = .ok (.if_icmp .ge 18, 3) := by decide +kernel
theorem dX6_fitsWithout_75 : decode cX6_fitsWithout 75 = .ok (.aload_n 0, 1) := by decide +kernel
theorem dX6_fitsWithout_76 : decode cX6_fitsWithout 76 = .ok (.getfield 32, 3) := by decide +kernel
theorem dX6_fitsWithout_79 : decode cX6_fitsWithout 79 = .ok (.iload_n 2, 1) := by decide +kernel
theorem dX6_fitsWithout_80 : decode cX6_fitsWithout 80 = .ok (.sipush 1023, 3) := by decide +kernel
theorem dX6_fitsWithout_83 : decode cX6_fitsWithout 83 = .ok (.iastore, 1) := by decide +kernel
theorem dX6_fitsWithout_84 : decode cX6_fitsWithout 84 = .ok (.iinc 2 1, 3) := by decide +kernel
theorem dX6_fitsWithout_87 : decode cX6_fitsWithout 87 = .ok (.goto (-20), 3) := by decide +kernel
theorem dX6_fitsWithout_90 : decode cX6_fitsWithout 90 = .ok (.aload_n 0, 1) := by decide +kernel
theorem dX6_fitsWithout_91 : decode cX6_fitsWithout 91 = .ok (.invokevirtual 106, 3) := by decide +kernel
theorem dX6_fitsWithout_94 : decode cX6_fitsWithout 94 = .ok (.ifCond .eq 15, 3) := by decide +kernel
theorem dX6_fitsWithout_97 : decode cX6_fitsWithout 97 = .ok (.aload_n 0, 1) := by decide +kernel
theorem dX6_fitsWithout_98 : decode cX6_fitsWithout 98 = .ok (.iconst 0, 1) := by decide +kernel
theorem dX6_fitsWithout_99 : decode cX6_fitsWithout 99 = .ok (.invokevirtual 110, 3) := by decide +kernel
theorem dX6_fitsWithout_102 : decode cX6_fitsWithout 102 = .ok (.ifCond .eq 7, 3) := by decide +kernel
theorem dX6_fitsWithout_105 : decode cX6_fitsWithout 105 = .ok (.iconst 1, 1) := by decide +kernel
theorem dX6_fitsWithout_106 : decode cX6_fitsWithout 106 = .ok (.goto 4, 3) := by decide +kernel
theorem dX6_fitsWithout_109 : decode cX6_fitsWithout 109 = .ok (.iconst 0, 1) := by decide +kernel
theorem dX6_fitsWithout_110 : decode cX6_fitsWithout 110 = .ok (.ireturn, 1) := by decide +kernel
theorem dX6_narrowPairs_0 : decode cX6_narrowPairs 0 = .ok (.aload_n 0, 1) := by decide +kernel
theorem dX6_narrowPairs_1 : decode cX6_narrowPairs 1 = .ok (.getfield 18, 3) := by decide +kernel
theorem dX6_narrowPairs_4 : decode cX6_narrowPairs 4 = .ok (.iload_n 1, 1) := by decide +kernel
theorem dX6_narrowPairs_5 : decode cX6_narrowPairs 5 = .ok (.iaload, 1) := by decide +kernel
theorem dX6_narrowPairs_6 : decode cX6_narrowPairs 6 = .ok (.istore_n 2, 1) := by decide +kernel
theorem dX6_narrowPairs_7 : decode cX6_narrowPairs 7 = .ok (.iconst 0, 1) := by decide +kernel
theorem dX6_narrowPairs_8 : decode cX6_narrowPairs 8 = .ok (.istore_n 3, 1) := by decide +kernel
theorem dX6_narrowPairs_9 : decode cX6_narrowPairs 9 = .ok (.iload_n 3, 1) := by decide +kernel
theorem dX6_narrowPairs_10 : decode cX6_narrowPairs 10 = .ok (.aload_n 0, 1) := by decide +kernel
theorem dX6_narrowPairs_11 : decode cX6_narrowPairs 11 = .ok (.getfield 11, 3) := by decide +kernel
theorem dX6_narrowPairs_14 : decode cX6_narrowPairs 14 = .ok (.if_icmp .ge 59, 3) := by decide +kernel
theorem dX6_narrowPairs_17 : decode cX6_narrowPairs 17 = .ok (.iload_n 3, 1) := by decide +kernel
theorem dX6_narrowPairs_18 : decode cX6_narrowPairs 18 = .ok (.iload_n 2, 1) := by decide +kernel
theorem dX6_narrowPairs_19 : decode cX6_narrowPairs 19 = .ok (.if_icmp .ne 6, 3) := by decide +kernel
theorem dX6_narrowPairs_22 : decode cX6_narrowPairs 22 = .ok (.goto 45, 3) := by decide +kernel
theorem dX6_narrowPairs_25 : decode cX6_narrowPairs 25 = .ok (.aload_n 0, 1) := by decide +kernel
theorem dX6_narrowPairs_26 : decode cX6_narrowPairs 26 = .ok (.getfield 26, 3) := by decide +kernel
theorem dX6_narrowPairs_29 : decode cX6_narrowPairs 29 = .ok (.iload_n 1, 1) := by decide +kernel
theorem dX6_narrowPairs_30 : decode cX6_narrowPairs 30 = .ok (.iconst 5, 1) := by decide +kernel
theorem dX6_narrowPairs_31 : decode cX6_narrowPairs 31 = .ok (.imul, 1) := by decide +kernel
theorem dX6_narrowPairs_32 : decode cX6_narrowPairs 32 = .ok (.iload_n 3, 1) := by decide +kernel
theorem dX6_narrowPairs_33 : decode cX6_narrowPairs 33 = .ok (.iadd, 1) := by decide +kernel
theorem dX6_narrowPairs_34 : decode cX6_narrowPairs 34 = .ok (.iaload, 1) := by decide +kernel
theorem dX6_narrowPairs_35 : decode cX6_narrowPairs 35 = .ok (.istore 4, 2) := by decide +kernel
theorem dX6_narrowPairs_37 : decode cX6_narrowPairs 37 = .ok (.aload_n 0, 1) := by decide +kernel
theorem dX6_narrowPairs_38 : decode cX6_narrowPairs 38 = .ok (.getfield 29, 3) := by decide +kernel
theorem dX6_narrowPairs_41 : decode cX6_narrowPairs 41 = .ok (.iload_n 2, 1) := by decide +kernel
theorem dX6_narrowPairs_42 : decode cX6_narrowPairs 42 = .ok (.iconst 5, 1) := by decide +kernel
theorem dX6_narrowPairs_43 : decode cX6_narrowPairs 43 = .ok (.imul, 1) := by decide +kernel
theorem dX6_narrowPairs_44 : decode cX6_narrowPairs 44 = .ok (.iload_n 3, 1) := by decide +kernel
theorem dX6_narrowPairs_45 : decode cX6_narrowPairs 45 = .ok (.iadd, 1) := by decide +kernel
theorem dX6_narrowPairs_46 : decode cX6_narrowPairs 46 = .ok (.dup2, 1) := by decide +kernel
theorem dX6_narrowPairs_47 : decode cX6_narrowPairs 47 = .ok (.iaload, 1) := by decide +kernel
theorem dX6_narrowPairs_48 : decode cX6_narrowPairs 48 = .ok (.iload 4, 2) := by decide +kernel
theorem dX6_narrowPairs_50 : decode cX6_narrowPairs 50 = .ok (.iand, 1) := by decide +kernel
theorem dX6_narrowPairs_51 : decode cX6_narrowPairs 51 = .ok (.iastore, 1) := by decide +kernel
theorem dX6_narrowPairs_52 : decode cX6_narrowPairs 52 = .ok (.aload_n 0, 1) := by decide +kernel
theorem dX6_narrowPairs_53 : decode cX6_narrowPairs 53 = .ok (.getfield 29, 3) := by decide +kernel
theorem dX6_narrowPairs_56 : decode cX6_narrowPairs 56 = .ok (.iload_n 3, 1) := by decide +kernel
theorem dX6_narrowPairs_57 : decode cX6_narrowPairs 57 = .ok (.iconst 5, 1) := by decide +kernel
theorem dX6_narrowPairs_58 : decode cX6_narrowPairs 58 = .ok (.imul, 1) := by decide +kernel
theorem dX6_narrowPairs_59 : decode cX6_narrowPairs 59 = .ok (.iload_n 2, 1) := by decide +kernel
theorem dX6_narrowPairs_60 : decode cX6_narrowPairs 60 = .ok (.iadd, 1) := by decide +kernel
theorem dX6_narrowPairs_61 : decode cX6_narrowPairs 61 = .ok (.dup2, 1) := by decide +kernel
theorem dX6_narrowPairs_62 : decode cX6_narrowPairs 62 = .ok (.iaload, 1) := by decide +kernel
theorem dX6_narrowPairs_63 : decode cX6_narrowPairs 63 = .ok (.iload 4, 2) := by decide +kernel
theorem dX6_narrowPairs_65 : decode cX6_narrowPairs 65 = .ok (.iand, 1) := by decide +kernel
theorem dX6_narrowPairs_66 : decode cX6_narrowPairs 66 = .ok (.iastore, 1) := by decide +kernel
theorem dX6_narrowPairs_67 : decode cX6_narrowPairs 67 = .ok (.iinc 3 1, 3) := by decide +kernel
theorem dX6_narrowPairs_70 : decode cX6_narrowPairs 70 = .ok (.goto (-61), 3) := by decide +kernel
theorem dX6_narrowPairs_73 : decode cX6_narrowPairs 73 = .ok (.return_, 1) := by decide +kernel
theorem dX6_strikesOut_0 : decode cX6_strikesOut 0 = .ok (.iconst 1, 1) := by decide +kernel
theorem dX6_strikesOut_1 : decode cX6_strikesOut 1 = .ok (.istore_n 1, 1) := by decide +kernel
theorem dX6_strikesOut_2 : decode cX6_strikesOut 2 = .ok (.iconst 0, 1) := by decide +kernel
theorem dX6_strikesOut_3 : decode cX6_strikesOut 3 = .ok (.istore_n 2, 1) := by decide +kernel
theorem dX6_strikesOut_4 : decode cX6_strikesOut 4 = .ok (.iload_n 2, 1) := by decide +kernel
theorem dX6_strikesOut_5 : decode cX6_strikesOut 5 = .ok (.bipush 51, 2) := by decide +kernel
theorem dX6_strikesOut_7 : decode cX6_strikesOut 7 = .ok (.if_icmp .ge 74, 3) := by decide +kernel
theorem dX6_strikesOut_10 : decode cX6_strikesOut 10 = .ok (.iload_n 1, 1) := by decide +kernel
theorem dX6_strikesOut_11 : decode cX6_strikesOut 11 = .ok (.ifCond .eq 70, 3) := by decide +kernel
theorem dX6_strikesOut_14 : decode cX6_strikesOut 14 = .ok (.iconst 0, 1) := by decide +kernel
theorem dX6_strikesOut_15 : decode cX6_strikesOut 15 = .ok (.istore_n 1, 1) := by decide +kernel
theorem dX6_strikesOut_16 : decode cX6_strikesOut 16 = .ok (.iconst 0, 1) := by decide +kernel
theorem dX6_strikesOut_17 : decode cX6_strikesOut 17 = .ok (.istore_n 3, 1) := by decide +kernel
theorem dX6_strikesOut_18 : decode cX6_strikesOut 18 = .ok (.iload_n 3, 1) := by decide +kernel
theorem dX6_strikesOut_19 : decode cX6_strikesOut 19 = .ok (.aload_n 0, 1) := by decide +kernel
theorem dX6_strikesOut_20 : decode cX6_strikesOut 20 = .ok (.getfield 11, 3) := by decide +kernel
theorem dX6_strikesOut_23 : decode cX6_strikesOut 23 = .ok (.if_icmp .ge 52, 3) := by decide +kernel
theorem dX6_strikesOut_26 : decode cX6_strikesOut 26 = .ok (.aload_n 0, 1) := by decide +kernel
theorem dX6_strikesOut_27 : decode cX6_strikesOut 27 = .ok (.iload_n 3, 1) := by decide +kernel
theorem dX6_strikesOut_28 : decode cX6_strikesOut 28 = .ok (.invokevirtual 113, 3) := by decide +kernel
theorem dX6_strikesOut_31 : decode cX6_strikesOut 31 = .ok (.istore 4, 2) := by decide +kernel
theorem dX6_strikesOut_33 : decode cX6_strikesOut 33 = .ok (.iload 4, 2) := by decide +kernel
theorem dX6_strikesOut_35 : decode cX6_strikesOut 35 = .ok (.ifCond .ne 5, 3) := by decide +kernel
theorem dX6_strikesOut_38 : decode cX6_strikesOut 38 = .ok (.iconst 0, 1) := by decide +kernel
theorem dX6_strikesOut_39 : decode cX6_strikesOut 39 = .ok (.ireturn, 1) := by decide +kernel
theorem dX6_strikesOut_40 : decode cX6_strikesOut 40 = .ok (.iload_n 1, 1) := by decide +kernel
theorem dX6_strikesOut_41 : decode cX6_strikesOut 41 = .ok (.ifCond .ne 14, 3) := by decide +kernel
theorem dX6_strikesOut_44 : decode cX6_strikesOut 44 = .ok (.iload 4, 2) := by decide +kernel
theorem dX6_strikesOut_46 : decode cX6_strikesOut 46 = .ok (.aload_n 0, 1) := by decide +kernel
theorem dX6_strikesOut_47 : decode cX6_strikesOut 47 = .ok (.getfield 32, 3) := by decide +kernel
theorem dX6_strikesOut_50 : decode cX6_strikesOut 50 = .ok (.iload_n 3, 1) := by decide +kernel
theorem dX6_strikesOut_51 : decode cX6_strikesOut 51 = .ok (.iaload, 1) := by decide +kernel
theorem dX6_strikesOut_52 : decode cX6_strikesOut 52 = .ok (.if_icmp .eq 7, 3) := by decide +kernel
theorem dX6_strikesOut_55 : decode cX6_strikesOut 55 = .ok (.iconst 1, 1) := by decide +kernel
theorem dX6_strikesOut_56 : decode cX6_strikesOut 56 = .ok (.goto 4, 3) := by decide +kernel
theorem dX6_strikesOut_59 : decode cX6_strikesOut 59 = .ok (.iconst 0, 1) := by decide +kernel
theorem dX6_strikesOut_60 : decode cX6_strikesOut 60 = .ok (.istore_n 1, 1) := by decide +kernel
theorem dX6_strikesOut_61 : decode cX6_strikesOut 61 = .ok (.aload_n 0, 1) := by decide +kernel
theorem dX6_strikesOut_62 : decode cX6_strikesOut 62 = .ok (.getfield 32, 3) := by decide +kernel
theorem dX6_strikesOut_65 : decode cX6_strikesOut 65 = .ok (.iload_n 3, 1) := by decide +kernel
theorem dX6_strikesOut_66 : decode cX6_strikesOut 66 = .ok (.iload 4, 2) := by decide +kernel
theorem dX6_strikesOut_68 : decode cX6_strikesOut 68 = .ok (.iastore, 1) := by decide +kernel
theorem dX6_strikesOut_69 : decode cX6_strikesOut 69 = .ok (.iinc 3 1, 3) := by decide +kernel
theorem dX6_strikesOut_72 : decode cX6_strikesOut 72 = .ok (.goto (-54), 3) := by decide +kernel
theorem dX6_strikesOut_75 : decode cX6_strikesOut 75 = .ok (.iinc 2 1, 3) := by decide +kernel
theorem dX6_strikesOut_78 : decode cX6_strikesOut 78 = .ok (.goto (-74), 3) := by decide +kernel
theorem dX6_strikesOut_81 : decode cX6_strikesOut 81 = .ok (.iconst 1, 1) := by decide +kernel
theorem dX6_strikesOut_82 : decode cX6_strikesOut 82 = .ok (.ireturn, 1) := by decide +kernel
theorem dX6_fittedBySome_0 : decode cX6_fittedBySome 0 = .ok (.aload_n 0, 1) := by decide +kernel
theorem dX6_fittedBySome_1 : decode cX6_fittedBySome 1 = .ok (.getfield 32, 3) := by decide +kernel
theorem dX6_fittedBySome_4 : decode cX6_fittedBySome 4 = .ok (.iload_n 1, 1) := by decide +kernel
theorem dX6_fittedBySome_5 : decode cX6_fittedBySome 5 = .ok (.iaload, 1) := by decide +kernel
theorem dX6_fittedBySome_6 : decode cX6_fittedBySome 6 = .ok (.istore_n 2, 1) := by decide +kernel
theorem dX6_fittedBySome_7 : decode cX6_fittedBySome 7 = .ok (.iconst 0, 1) := by decide +kernel
theorem dX6_fittedBySome_8 : decode cX6_fittedBySome 8 = .ok (.istore_n 3, 1) := by decide +kernel
theorem dX6_fittedBySome_9 : decode cX6_fittedBySome 9 = .ok (.iload_n 3, 1) := by decide +kernel
theorem dX6_fittedBySome_10 : decode cX6_fittedBySome 10 = .ok (.aload_n 0, 1) := by decide +kernel
theorem dX6_fittedBySome_11 : decode cX6_fittedBySome 11 = .ok (.getfield 11, 3) := by decide +kernel
theorem dX6_fittedBySome_14 : decode cX6_fittedBySome 14 = .ok (.if_icmp .ge 69, 3) := by decide +kernel
theorem dX6_fittedBySome_17 : decode cX6_fittedBySome 17 = .ok (.iload_n 3, 1) := by decide +kernel
theorem dX6_fittedBySome_18 : decode cX6_fittedBySome 18 = .ok (.iload_n 1, 1) := by decide +kernel
theorem dX6_fittedBySome_19 : decode cX6_fittedBySome 19 = .ok (.if_icmp .ne 6, 3) := by decide +kernel
theorem dX6_fittedBySome_22 : decode cX6_fittedBySome 22 = .ok (.goto 55, 3) := by decide +kernel
theorem dX6_fittedBySome_25 : decode cX6_fittedBySome 25 = .ok (.aload_n 0, 1) := by decide +kernel
theorem dX6_fittedBySome_26 : decode cX6_fittedBySome 26 = .ok (.getfield 29, 3) := by decide +kernel
theorem dX6_fittedBySome_29 : decode cX6_fittedBySome 29 = .ok (.iload_n 1, 1) := by decide +kernel
theorem dX6_fittedBySome_30 : decode cX6_fittedBySome 30 = .ok (.iconst 5, 1) := by decide +kernel
theorem dX6_fittedBySome_31 : decode cX6_fittedBySome 31 = .ok (.imul, 1) := by decide +kernel
theorem dX6_fittedBySome_32 : decode cX6_fittedBySome 32 = .ok (.iload_n 3, 1) := by decide +kernel
theorem dX6_fittedBySome_33 : decode cX6_fittedBySome 33 = .ok (.iadd, 1) := by decide +kernel
theorem dX6_fittedBySome_34 : decode cX6_fittedBySome 34 = .ok (.iaload, 1) := by decide +kernel
theorem dX6_fittedBySome_35 : decode cX6_fittedBySome 35 = .ok (.istore 4, 2) := by decide +kernel
theorem dX6_fittedBySome_37 : decode cX6_fittedBySome 37 = .ok (.iconst 0, 1) := by decide +kernel
theorem dX6_fittedBySome_38 : decode cX6_fittedBySome 38 = .ok (.istore 5, 2) := by decide +kernel
theorem dX6_fittedBySome_40 : decode cX6_fittedBySome 40 = .ok (.iload 5, 2) := by decide +kernel
theorem dX6_fittedBySome_42 : decode cX6_fittedBySome 42 = .ok (.bipush 9, 2) := by decide +kernel
theorem dX6_fittedBySome_44 : decode cX6_fittedBySome 44 = .ok (.if_icmp .gt 33, 3) := by decide +kernel
theorem dX6_fittedBySome_47 : decode cX6_fittedBySome 47 = .ok (.iload 4, 2) := by decide +kernel
theorem dX6_fittedBySome_49 : decode cX6_fittedBySome 49 = .ok (.iload 5, 2) := by decide +kernel
theorem dX6_fittedBySome_51 : decode cX6_fittedBySome 51 = .ok (.ishr, 1) := by decide +kernel
theorem dX6_fittedBySome_52 : decode cX6_fittedBySome 52 = .ok (.aload_n 0, 1) := by decide +kernel
theorem dX6_fittedBySome_53 : decode cX6_fittedBySome 53 = .ok (.getfield 32, 3) := by decide +kernel
theorem dX6_fittedBySome_56 : decode cX6_fittedBySome 56 = .ok (.iload_n 3, 1) := by decide +kernel
theorem dX6_fittedBySome_57 : decode cX6_fittedBySome 57 = .ok (.iaload, 1) := by decide +kernel
theorem dX6_fittedBySome_58 : decode cX6_fittedBySome 58 = .ok (.iand, 1) := by decide +kernel
theorem dX6_fittedBySome_59 : decode cX6_fittedBySome 59 = .ok (.ifCond .ne 12, 3) := by decide +kernel
theorem dX6_fittedBySome_62 : decode cX6_fittedBySome 62 = .ok (.iload_n 2, 1) := by decide +kernel
theorem dX6_fittedBySome_63 : decode cX6_fittedBySome 63 = .ok (.iconst 1, 1) := by decide +kernel
theorem dX6_fittedBySome_64 : decode cX6_fittedBySome 64 = .ok (.iload 5, 2) := by decide +kernel
theorem dX6_fittedBySome_66 : decode cX6_fittedBySome 66 = .ok (.ishl, 1) := by decide +kernel
theorem dX6_fittedBySome_67 : decode cX6_fittedBySome 67 = .ok (.iconst (-1), 1) := by decide +kernel
theorem dX6_fittedBySome_68 : decode cX6_fittedBySome 68 = .ok (.ixor, 1) := by decide +kernel
theorem dX6_fittedBySome_69 : decode cX6_fittedBySome 69 = .ok (.iand, 1) := by decide +kernel
theorem dX6_fittedBySome_70 : decode cX6_fittedBySome 70 = .ok (.istore_n 2, 1) := by decide +kernel
theorem dX6_fittedBySome_71 : decode cX6_fittedBySome 71 = .ok (.iinc 5 1, 3) := by decide +kernel
theorem dX6_fittedBySome_74 : decode cX6_fittedBySome 74 = .ok (.goto (-34), 3) := by decide +kernel
theorem dX6_fittedBySome_77 : decode cX6_fittedBySome 77 = .ok (.iinc 3 1, 3) := by decide +kernel
theorem dX6_fittedBySome_80 : decode cX6_fittedBySome 80 = .ok (.goto (-71), 3) := by decide +kernel
theorem dX6_fittedBySome_83 : decode cX6_fittedBySome 83 = .ok (.iload_n 2, 1) := by decide +kernel
theorem dX6_fittedBySome_84 : decode cX6_fittedBySome 84 = .ok (.ireturn, 1) := by decide +kernel
theorem dX6_fitsFrom_0 : decode cX6_fitsFrom 0 = .ok (.iload_n 1, 1) := by decide +kernel
theorem dX6_fitsFrom_1 : decode cX6_fitsFrom 1 = .ok (.aload_n 0, 1) := by decide +kernel
theorem dX6_fitsFrom_2 : decode cX6_fitsFrom 2 = .ok (.getfield 11, 3) := by decide +kernel
theorem dX6_fitsFrom_5 : decode cX6_fitsFrom 5 = .ok (.if_icmp .lt 5, 3) := by decide +kernel
theorem dX6_fitsFrom_8 : decode cX6_fitsFrom 8 = .ok (.iconst 1, 1) := by decide +kernel
theorem dX6_fitsFrom_9 : decode cX6_fitsFrom 9 = .ok (.ireturn, 1) := by decide +kernel
theorem dX6_fitsFrom_10 : decode cX6_fitsFrom 10 = .ok (.aload_n 0, 1) := by decide +kernel
theorem dX6_fitsFrom_11 : decode cX6_fitsFrom 11 = .ok (.getfield 32, 3) := by decide +kernel
theorem dX6_fitsFrom_14 : decode cX6_fitsFrom 14 = .ok (.iload_n 1, 1) := by decide +kernel
theorem dX6_fitsFrom_15 : decode cX6_fitsFrom 15 = .ok (.iconst 5, 1) := by decide +kernel
theorem dX6_fitsFrom_16 : decode cX6_fitsFrom 16 = .ok (.imul, 1) := by decide +kernel
theorem dX6_fitsFrom_17 : decode cX6_fitsFrom 17 = .ok (.iload_n 1, 1) := by decide +kernel
theorem dX6_fitsFrom_18 : decode cX6_fitsFrom 18 = .ok (.iadd, 1) := by decide +kernel
theorem dX6_fitsFrom_19 : decode cX6_fitsFrom 19 = .ok (.iaload, 1) := by decide +kernel
theorem dX6_fitsFrom_20 : decode cX6_fitsFrom 20 = .ok (.istore_n 2, 1) := by decide +kernel
theorem dX6_fitsFrom_21 : decode cX6_fitsFrom 21 = .ok (.iconst 0, 1) := by decide +kernel
theorem dX6_fitsFrom_22 : decode cX6_fitsFrom 22 = .ok (.istore_n 3, 1) := by decide +kernel
theorem dX6_fitsFrom_23 : decode cX6_fitsFrom 23 = .ok (.iload_n 3, 1) := by decide +kernel
theorem dX6_fitsFrom_24 : decode cX6_fitsFrom 24 = .ok (.bipush 9, 2) := by decide +kernel
theorem dX6_fitsFrom_26 : decode cX6_fitsFrom 26 = .ok (.if_icmp .gt 48, 3) := by decide +kernel
theorem dX6_fitsFrom_29 : decode cX6_fitsFrom 29 = .ok (.iload_n 2, 1) := by decide +kernel
theorem dX6_fitsFrom_30 : decode cX6_fitsFrom 30 = .ok (.iload_n 3, 1) := by decide +kernel
theorem dX6_fitsFrom_31 : decode cX6_fitsFrom 31 = .ok (.invokestatic 87, 3) := by decide +kernel
theorem dX6_fitsFrom_34 : decode cX6_fitsFrom 34 = .ok (.ifCond .eq 34, 3) := by decide +kernel
theorem dX6_fitsFrom_37 : decode cX6_fitsFrom 37 = .ok (.aload_n 0, 1) := by decide +kernel
theorem dX6_fitsFrom_38 : decode cX6_fitsFrom 38 = .ok (.iload_n 1, 1) := by decide +kernel
theorem dX6_fitsFrom_39 : decode cX6_fitsFrom 39 = .ok (.iload_n 3, 1) := by decide +kernel
theorem dX6_fitsFrom_40 : decode cX6_fitsFrom 40 = .ok (.invokevirtual 116, 3) := by decide +kernel
theorem dX6_fitsFrom_43 : decode cX6_fitsFrom 43 = .ok (.ifCond .ne 6, 3) := by decide +kernel
theorem dX6_fitsFrom_46 : decode cX6_fitsFrom 46 = .ok (.goto 22, 3) := by decide +kernel
theorem dX6_fitsFrom_49 : decode cX6_fitsFrom 49 = .ok (.aload_n 0, 1) := by decide +kernel
theorem dX6_fitsFrom_50 : decode cX6_fitsFrom 50 = .ok (.getfield 35, 3) := by decide +kernel
theorem dX6_fitsFrom_53 : decode cX6_fitsFrom 53 = .ok (.iload_n 1, 1) := by decide +kernel
theorem dX6_fitsFrom_54 : decode cX6_fitsFrom 54 = .ok (.iload_n 3, 1) := by decide +kernel
theorem dX6_fitsFrom_55 : decode cX6_fitsFrom 55 = .ok (.iastore, 1) := by decide +kernel
theorem dX6_fitsFrom_56 : decode cX6_fitsFrom 56 = .ok (.aload_n 0, 1) := by decide +kernel
theorem dX6_fitsFrom_57 : decode cX6_fitsFrom 57 = .ok (.iload_n 1, 1) := by decide +kernel
theorem dX6_fitsFrom_58 : decode cX6_fitsFrom 58 = .ok (.iconst 1, 1) := by decide +kernel
theorem dX6_fitsFrom_59 : decode cX6_fitsFrom 59 = .ok (.iadd, 1) := by decide +kernel
theorem dX6_fitsFrom_60 : decode cX6_fitsFrom 60 = .ok (.invokevirtual 110, 3) := by decide +kernel
theorem dX6_fitsFrom_63 : decode cX6_fitsFrom 63 = .ok (.ifCond .eq 5, 3) := by decide +kernel
theorem dX6_fitsFrom_66 : decode cX6_fitsFrom 66 = .ok (.iconst 1, 1) := by decide +kernel
theorem dX6_fitsFrom_67 : decode cX6_fitsFrom 67 = .ok (.ireturn, 1) := by decide +kernel
theorem dX6_fitsFrom_68 : decode cX6_fitsFrom 68 = .ok (.iinc 3 1, 3) := by decide +kernel
theorem dX6_fitsFrom_71 : decode cX6_fitsFrom 71 = .ok (.goto (-48), 3) := by decide +kernel
theorem dX6_fitsFrom_74 : decode cX6_fitsFrom 74 = .ok (.iconst 0, 1) := by decide +kernel
theorem dX6_fitsFrom_75 : decode cX6_fitsFrom 75 = .ok (.ireturn, 1) := by decide +kernel
theorem dX6_leavesSome_0 : decode cX6_leavesSome 0 = .ok (.iload_n 1, 1) := by decide +kernel
theorem dX6_leavesSome_1 : decode cX6_leavesSome 1 = .ok (.iconst 1, 1) := by decide +kernel
theorem dX6_leavesSome_2 : decode cX6_leavesSome 2 = .ok (.iadd, 1) := by decide +kernel
theorem dX6_leavesSome_3 : decode cX6_leavesSome 3 = .ok (.istore_n 3, 1) := by decide +kernel
theorem dX6_leavesSome_4 : decode cX6_leavesSome 4 = .ok (.iload_n 3, 1) := by decide +kernel
theorem dX6_leavesSome_5 : decode cX6_leavesSome 5 = .ok (.aload_n 0, 1) := by decide +kernel
theorem dX6_leavesSome_6 : decode cX6_leavesSome 6 = .ok (.getfield 11, 3) := by decide +kernel
theorem dX6_leavesSome_9 : decode cX6_leavesSome 9 = .ok (.if_icmp .ge 59, 3) := by decide +kernel
theorem dX6_leavesSome_12 : decode cX6_leavesSome 12 = .ok (.aload_n 0, 1) := by decide +kernel
theorem dX6_leavesSome_13 : decode cX6_leavesSome 13 = .ok (.getfield 29, 3) := by decide +kernel
theorem dX6_leavesSome_16 : decode cX6_leavesSome 16 = .ok (.iload_n 1, 1) := by decide +kernel
theorem dX6_leavesSome_17 : decode cX6_leavesSome 17 = .ok (.iconst 5, 1) := by decide +kernel
theorem dX6_leavesSome_18 : decode cX6_leavesSome 18 = .ok (.imul, 1) := by decide +kernel
theorem dX6_leavesSome_19 : decode cX6_leavesSome 19 = .ok (.iload_n 3, 1) := by decide +kernel
theorem dX6_leavesSome_20 : decode cX6_leavesSome 20 = .ok (.iadd, 1) := by decide +kernel
theorem dX6_leavesSome_21 : decode cX6_leavesSome 21 = .ok (.iaload, 1) := by decide +kernel
theorem dX6_leavesSome_22 : decode cX6_leavesSome 22 = .ok (.iload_n 2, 1) := by decide +kernel
theorem dX6_leavesSome_23 : decode cX6_leavesSome 23 = .ok (.ishr, 1) := by decide +kernel
theorem dX6_leavesSome_24 : decode cX6_leavesSome 24 = .ok (.istore 4, 2) := by decide +kernel
theorem dX6_leavesSome_26 : decode cX6_leavesSome 26 = .ok (.aload_n 0, 1) := by decide +kernel
theorem dX6_leavesSome_27 : decode cX6_leavesSome 27 = .ok (.getfield 32, 3) := by decide +kernel
theorem dX6_leavesSome_30 : decode cX6_leavesSome 30 = .ok (.iload_n 1, 1) := by decide +kernel
theorem dX6_leavesSome_31 : decode cX6_leavesSome 31 = .ok (.iconst 5, 1) := by decide +kernel
theorem dX6_leavesSome_32 : decode cX6_leavesSome 32 = .ok (.imul, 1) := by decide +kernel
theorem dX6_leavesSome_33 : decode cX6_leavesSome 33 = .ok (.iload_n 3, 1) := by decide +kernel
theorem dX6_leavesSome_34 : decode cX6_leavesSome 34 = .ok (.iadd, 1) := by decide +kernel
theorem dX6_leavesSome_35 : decode cX6_leavesSome 35 = .ok (.iaload, 1) := by decide +kernel
theorem dX6_leavesSome_36 : decode cX6_leavesSome 36 = .ok (.iload 4, 2) := by decide +kernel
theorem dX6_leavesSome_38 : decode cX6_leavesSome 38 = .ok (.iand, 1) := by decide +kernel
theorem dX6_leavesSome_39 : decode cX6_leavesSome 39 = .ok (.istore 5, 2) := by decide +kernel
theorem dX6_leavesSome_41 : decode cX6_leavesSome 41 = .ok (.iload 5, 2) := by decide +kernel
theorem dX6_leavesSome_43 : decode cX6_leavesSome 43 = .ok (.ifCond .ne 5, 3) := by decide +kernel
theorem dX6_leavesSome_46 : decode cX6_leavesSome 46 = .ok (.iconst 0, 1) := by decide +kernel
theorem dX6_leavesSome_47 : decode cX6_leavesSome 47 = .ok (.ireturn, 1) := by decide +kernel
theorem dX6_leavesSome_48 : decode cX6_leavesSome 48 = .ok (.aload_n 0, 1) := by decide +kernel
theorem dX6_leavesSome_49 : decode cX6_leavesSome 49 = .ok (.getfield 32, 3) := by decide +kernel
theorem dX6_leavesSome_52 : decode cX6_leavesSome 52 = .ok (.iload_n 1, 1) := by decide +kernel
theorem dX6_leavesSome_53 : decode cX6_leavesSome 53 = .ok (.iconst 1, 1) := by decide +kernel
theorem dX6_leavesSome_54 : decode cX6_leavesSome 54 = .ok (.iadd, 1) := by decide +kernel
theorem dX6_leavesSome_55 : decode cX6_leavesSome 55 = .ok (.iconst 5, 1) := by decide +kernel
theorem dX6_leavesSome_56 : decode cX6_leavesSome 56 = .ok (.imul, 1) := by decide +kernel
theorem dX6_leavesSome_57 : decode cX6_leavesSome 57 = .ok (.iload_n 3, 1) := by decide +kernel
theorem dX6_leavesSome_58 : decode cX6_leavesSome 58 = .ok (.iadd, 1) := by decide +kernel
theorem dX6_leavesSome_59 : decode cX6_leavesSome 59 = .ok (.iload 5, 2) := by decide +kernel
theorem dX6_leavesSome_61 : decode cX6_leavesSome 61 = .ok (.iastore, 1) := by decide +kernel
theorem dX6_leavesSome_62 : decode cX6_leavesSome 62 = .ok (.iinc 3 1, 3) := by decide +kernel
theorem dX6_leavesSome_65 : decode cX6_leavesSome 65 = .ok (.goto (-61), 3) := by decide +kernel
theorem dX6_leavesSome_68 : decode cX6_leavesSome 68 = .ok (.iconst 1, 1) := by decide +kernel
theorem dX6_leavesSome_69 : decode cX6_leavesSome 69 = .ok (.ireturn, 1) := by decide +kernel
theorem dX7_init_0 : decode cX7_init 0 = .ok (.aload_n 0, 1) := by decide +kernel
theorem dX7_init_1 : decode cX7_init 1 = .ok (.invokespecial 1, 3) := by decide +kernel
theorem dX7_init_4 : decode cX7_init 4 = .ok (.return_, 1) := by decide +kernel
theorem dX7_becomes_0 : decode cX7_becomes 0 = .ok (.iload_n 2, 1) := by decide +kernel
theorem dX7_becomes_1 : decode cX7_becomes 1 = .ok (.iload_n 3, 1) := by decide +kernel
theorem dX7_becomes_2 : decode cX7_becomes 2 = .ok (.iconst 3, 1) := by decide +kernel
theorem dX7_becomes_3 : decode cX7_becomes 3 = .ok (.iadd, 1) := by decide +kernel
theorem dX7_becomes_4 : decode cX7_becomes 4 = .ok (.if_icmp .ge 17, 3) := by decide +kernel
theorem dX7_becomes_7 : decode cX7_becomes 7 = .ok (.aload_n 0, 1) := by decide +kernel
theorem dX7_becomes_8 : decode cX7_becomes 8 = .ok (.iload_n 1, 1) := by decide +kernel
theorem dX7_becomes_9 : decode cX7_becomes 9 = .ok (.iload_n 2, 1) := by decide +kernel
theorem dX7_becomes_10 : decode cX7_becomes 10 = .ok (.iload_n 3, 1) := by decide +kernel
theorem dX7_becomes_11 : decode cX7_becomes 11 = .ok (.invokespecial 9, 3) := by decide +kernel
theorem dX7_becomes_14 : decode cX7_becomes 14 = .ok (.ifCond .eq 7, 3) := by decide +kernel
theorem dX7_becomes_17 : decode cX7_becomes 17 = .ok (.iconst 1, 1) := by decide +kernel
theorem dX7_becomes_18 : decode cX7_becomes 18 = .ok (.goto 4, 3) := by decide +kernel
theorem dX7_becomes_21 : decode cX7_becomes 21 = .ok (.iconst 0, 1) := by decide +kernel
theorem dX7_becomes_22 : decode cX7_becomes 22 = .ok (.ireturn, 1) := by decide +kernel
theorem dX8_init_0 : decode cX8_init 0 = .ok (.aload_n 0, 1) := by decide +kernel
theorem dX8_init_1 : decode cX8_init 1 = .ok (.invokespecial 3, 3) := by decide +kernel
theorem dX8_init_4 : decode cX8_init 4 = .ok (.aload_n 0, 1) := by decide +kernel
theorem dX8_init_5 : decode cX8_init 5 = .ok (.iconst (-1), 1) := by decide +kernel
theorem dX8_init_6 : decode cX8_init 6 = .ok (.putfield 9, 3) := by decide +kernel
theorem dX8_init_9 : decode cX8_init 9 = .ok (.aload_n 0, 1) := by decide +kernel
theorem dX8_init_10 : decode cX8_init 10 = .ok (.iconst 0, 1) := by decide +kernel
theorem dX8_init_11 : decode cX8_init 11 = .ok (.putfield 15, 3) := by decide +kernel
theorem dX8_init_14 : decode cX8_init 14 = .ok (.aload_n 0, 1) := by decide +kernel
theorem dX8_init_15 : decode cX8_init 15 = .ok (.iconst (-1), 1) := by decide +kernel
theorem dX8_init_16 : decode cX8_init 16 = .ok (.putfield 18, 3) := by decide +kernel
theorem dX8_init_19 : decode cX8_init 19 = .ok (.aload_n 0, 1) := by decide +kernel
theorem dX8_init_20 : decode cX8_init 20 = .ok (.iconst 0, 1) := by decide +kernel
theorem dX8_init_21 : decode cX8_init 21 = .ok (.putfield 21, 3) := by decide +kernel
theorem dX8_init_24 : decode cX8_init 24 = .ok (.aload_n 0, 1) := by decide +kernel
theorem dX8_init_25 : decode cX8_init 25 = .ok (.iconst 0, 1) := by decide +kernel
theorem dX8_init_26 : decode cX8_init 26 = .ok (.putfield 24, 3) := by decide +kernel
theorem dX8_init_29 : decode cX8_init 29 = .ok (.aload_n 0, 1) := by decide +kernel
theorem dX8_init_30 : decode cX8_init 30 = .ok (.iconst 0, 1) := by decide +kernel
theorem dX8_init_31 : decode cX8_init 31 = .ok (.putfield 27, 3) := by decide +kernel
theorem dX8_init_34 : decode cX8_init 34 = .ok (.aload_n 0, 1) := by decide +kernel
theorem dX8_init_35 : decode cX8_init 35 = .ok (.iconst 0, 1) := by decide +kernel
theorem dX8_init_36 : decode cX8_init 36 = .ok (.putfield 30, 3) := by decide +kernel
theorem dX8_init_39 : decode cX8_init 39 = .ok (.aload_n 0, 1) := by decide +kernel
theorem dX8_init_40 : decode cX8_init 40 = .ok (.aload_n 1, 1) := by decide +kernel
theorem dX8_init_41 : decode cX8_init 41 = .ok (.putfield 33, 3) := by decide +kernel
theorem dX8_init_44 : decode cX8_init 44 = .ok (.return_, 1) := by decide +kernel
theorem dX8_by_0 : decode cX8_by 0 = .ok (.aload_n 0, 1) := by decide +kernel
theorem dX8_by_1 : decode cX8_by 1 = .ok (.iload_n 3, 1) := by decide +kernel
theorem dX8_by_2 : decode cX8_by 2 = .ok (.putfield 9, 3) := by decide +kernel
theorem dX8_by_5 : decode cX8_by 5 = .ok (.aload_n 0, 1) := by decide +kernel
theorem dX8_by_6 : decode cX8_by 6 = .ok (.iload 4, 2) := by decide +kernel
theorem dX8_by_8 : decode cX8_by 8 = .ok (.putfield 15, 3) := by decide +kernel
theorem dX8_by_11 : decode cX8_by 11 = .ok (.aload_n 0, 1) := by decide +kernel
theorem dX8_by_12 : decode cX8_by 12 = .ok (.iload 5, 2) := by decide +kernel
theorem dX8_by_14 : decode cX8_by 14 = .ok (.putfield 18, 3) := by decide +kernel
theorem dX8_by_17 : decode cX8_by 17 = .ok (.aload_n 0, 1) := by decide +kernel
theorem dX8_by_18 : decode cX8_by 18 = .ok (.iload 6, 2) := by decide +kernel
theorem dX8_by_20 : decode cX8_by 20 = .ok (.putfield 21, 3) := by decide +kernel
theorem dX8_by_23 : decode cX8_by 23 = .ok (.aload_n 0, 1) := by decide +kernel
theorem dX8_by_24 : decode cX8_by 24 = .ok (.aload_n 1, 1) := by decide +kernel
theorem dX8_by_25 : decode cX8_by 25 = .ok (.iload_n 2, 1) := by decide +kernel
theorem dX8_by_26 : decode cX8_by 26 = .ok (.iload_n 3, 1) := by decide +kernel
theorem dX8_by_27 : decode cX8_by 27 = .ok (.iload 4, 2) := by decide +kernel
theorem dX8_by_29 : decode cX8_by 29 = .ok (.invokestatic 37, 3) := by decide +kernel
theorem dX8_by_32 : decode cX8_by 32 = .ok (.aload_n 1, 1) := by decide +kernel
theorem dX8_by_33 : decode cX8_by 33 = .ok (.iload_n 2, 1) := by decide +kernel
theorem dX8_by_34 : decode cX8_by 34 = .ok (.iload 5, 2) := by decide +kernel
theorem dX8_by_36 : decode cX8_by 36 = .ok (.iload 6, 2) := by decide +kernel
theorem dX8_by_38 : decode cX8_by 38 = .ok (.invokestatic 37, 3) := by decide +kernel
theorem dX8_by_41 : decode cX8_by 41 = .ok (.iadd, 1) := by decide +kernel
theorem dX8_by_42 : decode cX8_by 42 = .ok (.putfield 24, 3) := by decide +kernel
theorem dX8_by_45 : decode cX8_by 45 = .ok (.aload_n 0, 1) := by decide +kernel
theorem dX8_by_46 : decode cX8_by 46 = .ok (.iconst 0, 1) := by decide +kernel
theorem dX8_by_47 : decode cX8_by 47 = .ok (.putfield 27, 3) := by decide +kernel
theorem dX8_by_50 : decode cX8_by 50 = .ok (.aload_n 0, 1) := by decide +kernel
theorem dX8_by_51 : decode cX8_by 51 = .ok (.iconst 0, 1) := by decide +kernel
theorem dX8_by_52 : decode cX8_by 52 = .ok (.putfield 30, 3) := by decide +kernel
theorem dX8_by_55 : decode cX8_by 55 = .ok (.iconst 0, 1) := by decide +kernel
theorem dX8_by_56 : decode cX8_by 56 = .ok (.istore 7, 2) := by decide +kernel
theorem dX8_by_58 : decode cX8_by 58 = .ok (.iload 7, 2) := by decide +kernel
theorem dX8_by_60 : decode cX8_by 60 = .ok (.aload_n 1, 1) := by decide +kernel
theorem dX8_by_61 : decode cX8_by 61 = .ok (.getfield 41, 3) := by decide +kernel
theorem dX8_by_64 : decode cX8_by 64 = .ok (.if_icmp .ge 107, 3) := by decide +kernel
theorem dX8_by_67 : decode cX8_by 67 = .ok (.aload_n 0, 1) := by decide +kernel
theorem dX8_by_68 : decode cX8_by 68 = .ok (.getfield 33, 3) := by decide +kernel
theorem dX8_by_71 : decode cX8_by 71 = .ok (.aload_n 1, 1) := by decide +kernel
theorem dX8_by_72 : decode cX8_by 72 = .ok (.getfield 46, 3) := by decide +kernel
theorem dX8_by_75 : decode cX8_by 75 = .ok (.iload 7, 2) := by decide +kernel
theorem dX8_by_77 : decode cX8_by 77 = .ok (.iaload, 1) := by decide +kernel
theorem dX8_by_78 : decode cX8_by 78 = .ok (.invokevirtual 50, 3) := by decide +kernel
theorem dX8_by_81 : decode cX8_by 81 = .ok (.astore 8, 2) := by decide +kernel
theorem dX8_by_83 : decode cX8_by 83 = .ok (.aload_n 0, 1) := by decide +kernel
theorem dX8_by_84 : decode cX8_by 84 = .ok (.aload_n 1, 1) := by decide +kernel
theorem dX8_by_85 : decode cX8_by 85 = .ok (.iload_n 2, 1) := by decide +kernel
theorem dX8_by_86 : decode cX8_by 86 = .ok (.iload 7, 2) := by decide +kernel
theorem dX8_by_88 : decode cX8_by 88 = .ok (.invokevirtual 56, 3) := by decide +kernel
theorem dX8_by_91 : decode cX8_by 91 = .ok (.istore 9, 2) := by decide +kernel
theorem dX8_by_93 : decode cX8_by 93 = .ok (.aload 8, 2) := by decide +kernel
theorem dX8_by_95 : decode cX8_by 95 = .ok (.iconst 0, 1) := by decide +kernel
theorem dX8_by_96 : decode cX8_by 96 = .ok (.iload 9, 2) := by decide +kernel
theorem dX8_by_98 : decode cX8_by 98 = .ok (.aload_n 1, 1) := by decide +kernel
theorem dX8_by_99 : decode cX8_by 99 = .ok (.getfield 60, 3) := by decide +kernel
theorem dX8_by_102 : decode cX8_by 102 = .ok (.iload 7, 2) := by decide +kernel
theorem dX8_by_104 : decode cX8_by 104 = .ok (.iaload, 1) := by decide +kernel
theorem dX8_by_105 : decode cX8_by 105 = .ok (.invokevirtual 63, 3) := by decide +kernel
theorem dX8_by_108 : decode cX8_by 108 = .ok (.istore 10, 2) := by decide +kernel
theorem dX8_by_110 : decode cX8_by 110 = .ok (.aload 8, 2) := by decide +kernel
theorem dX8_by_112 : decode cX8_by 112 = .ok (.iconst 1, 1) := by decide +kernel
theorem dX8_by_113 : decode cX8_by 113 = .ok (.iload 9, 2) := by decide +kernel
theorem dX8_by_115 : decode cX8_by 115 = .ok (.aload_n 1, 1) := by decide +kernel
theorem dX8_by_116 : decode cX8_by 116 = .ok (.getfield 60, 3) := by decide +kernel
theorem dX8_by_119 : decode cX8_by 119 = .ok (.iload 7, 2) := by decide +kernel
theorem dX8_by_121 : decode cX8_by 121 = .ok (.iaload, 1) := by decide +kernel
theorem dX8_by_122 : decode cX8_by 122 = .ok (.invokevirtual 63, 3) := by decide +kernel
theorem dX8_by_125 : decode cX8_by 125 = .ok (.istore 11, 2) := by decide +kernel
theorem dX8_by_127 : decode cX8_by 127 = .ok (.iload 10, 2) := by decide +kernel
theorem dX8_by_129 : decode cX8_by 129 = .ok (.ifCond .eq 16, 3) := by decide +kernel
theorem dX8_by_132 : decode cX8_by 132 = .ok (.aload_n 0, 1) := by decide +kernel
theorem dX8_by_133 : decode cX8_by 133 = .ok (.dup, 1) := by decide +kernel
theorem dX8_by_134 : decode cX8_by 134 = .ok (.getfield 30, 3) := by decide +kernel
theorem dX8_by_137 : decode cX8_by 137 = .ok (.iconst 1, 1) := by decide +kernel
theorem dX8_by_138 : decode cX8_by 138 = .ok (.iload 7, 2) := by decide +kernel
theorem dX8_by_140 : decode cX8_by 140 = .ok (.ishl, 1) := by decide +kernel
theorem dX8_by_141 : decode cX8_by 141 = .ok (.ior, 1) := by decide +kernel
theorem dX8_by_142 : decode cX8_by 142 = .ok (.putfield 30, 3) := by decide +kernel
theorem dX8_by_145 : decode cX8_by 145 = .ok (.iload 10, 2) := by decide +kernel
theorem dX8_by_147 : decode cX8_by 147 = .ok (.iload 11, 2) := by decide +kernel
theorem dX8_by_149 : decode cX8_by 149 = .ok (.if_icmp .eq 16, 3) := by decide +kernel
theorem dX8_by_152 : decode cX8_by 152 = .ok (.aload_n 0, 1) := by decide +kernel
theorem dX8_by_153 : decode cX8_by 153 = .ok (.dup, 1) := by decide +kernel
theorem dX8_by_154 : decode cX8_by 154 = .ok (.getfield 27, 3) := by decide +kernel
theorem dX8_by_157 : decode cX8_by 157 = .ok (.iconst 1, 1) := by decide +kernel
theorem dX8_by_158 : decode cX8_by 158 = .ok (.iload 7, 2) := by decide +kernel
theorem dX8_by_160 : decode cX8_by 160 = .ok (.ishl, 1) := by decide +kernel
theorem dX8_by_161 : decode cX8_by 161 = .ok (.ior, 1) := by decide +kernel
theorem dX8_by_162 : decode cX8_by 162 = .ok (.putfield 27, 3) := by decide +kernel
theorem dX8_by_165 : decode cX8_by 165 = .ok (.iinc 7 1, 3) := by decide +kernel
theorem dX8_by_168 : decode cX8_by 168 = .ok (.goto (-110), 3) := by decide +kernel
theorem dX8_by_171 : decode cX8_by 171 = .ok (.return_, 1) := by decide +kernel
theorem dX8_rings_0 : decode cX8_rings 0 = .ok (.aload_n 0, 1) := by decide +kernel
theorem dX8_rings_1 : decode cX8_rings 1 = .ok (.getfield 24, 3) := by decide +kernel
theorem dX8_rings_4 : decode cX8_rings 4 = .ok (.iconst 3, 1) := by decide +kernel
theorem dX8_rings_5 : decode cX8_rings 5 = .ok (.idiv, 1) := by decide +kernel
theorem dX8_rings_6 : decode cX8_rings 6 = .ok (.ireturn, 1) := by decide +kernel
theorem dX8_behind_0 : decode cX8_behind 0 = .ok (.iload_n 1, 1) := by decide +kernel
theorem dX8_behind_1 : decode cX8_behind 1 = .ok (.aload_n 0, 1) := by decide +kernel
theorem dX8_behind_2 : decode cX8_behind 2 = .ok (.getfield 27, 3) := by decide +kernel
theorem dX8_behind_5 : decode cX8_behind 5 = .ok (.iand, 1) := by decide +kernel
theorem dX8_behind_6 : decode cX8_behind 6 = .ok (.aload_n 0, 1) := by decide +kernel
theorem dX8_behind_7 : decode cX8_behind 7 = .ok (.getfield 30, 3) := by decide +kernel
theorem dX8_behind_10 : decode cX8_behind 10 = .ok (.ixor, 1) := by decide +kernel
theorem dX8_behind_11 : decode cX8_behind 11 = .ok (.ireturn, 1) := by decide +kernel
theorem dX8_moveOf_0 : decode cX8_moveOf 0 = .ok (.iload_n 3, 1) := by decide +kernel
theorem dX8_moveOf_1 : decode cX8_moveOf 1 = .ok (.aload_n 0, 1) := by decide +kernel
theorem dX8_moveOf_2 : decode cX8_moveOf 2 = .ok (.getfield 9, 3) := by decide +kernel
theorem dX8_moveOf_5 : decode cX8_moveOf 5 = .ok (.if_icmp .ne 8, 3) := by decide +kernel
theorem dX8_moveOf_8 : decode cX8_moveOf 8 = .ok (.aload_n 0, 1) := by decide +kernel
theorem dX8_moveOf_9 : decode cX8_moveOf 9 = .ok (.getfield 15, 3) := by decide +kernel
theorem dX8_moveOf_12 : decode cX8_moveOf 12 = .ok (.ireturn, 1) := by decide +kernel
theorem dX8_moveOf_13 : decode cX8_moveOf 13 = .ok (.iload_n 3, 1) := by decide +kernel
theorem dX8_moveOf_14 : decode cX8_moveOf 14 = .ok (.aload_n 0, 1) := by decide +kernel
theorem dX8_moveOf_15 : decode cX8_moveOf 15 = .ok (.getfield 18, 3) := by decide +kernel
theorem dX8_moveOf_18 : decode cX8_moveOf 18 = .ok (.if_icmp .ne 8, 3) := by decide +kernel
theorem dX8_moveOf_21 : decode cX8_moveOf 21 = .ok (.aload_n 0, 1) := by decide +kernel
theorem dX8_moveOf_22 : decode cX8_moveOf 22 = .ok (.getfield 21, 3) := by decide +kernel
theorem dX8_moveOf_25 : decode cX8_moveOf 25 = .ok (.ireturn, 1) := by decide +kernel
theorem dX8_moveOf_26 : decode cX8_moveOf 26 = .ok (.iload_n 2, 1) := by decide +kernel
theorem dX8_moveOf_27 : decode cX8_moveOf 27 = .ok (.iload_n 3, 1) := by decide +kernel
theorem dX8_moveOf_28 : decode cX8_moveOf 28 = .ok (.invokestatic 69, 3) := by decide +kernel
theorem dX8_moveOf_31 : decode cX8_moveOf 31 = .ok (.ifCond .ne 5, 3) := by decide +kernel
theorem dX8_moveOf_34 : decode cX8_moveOf 34 = .ok (.iconst 0, 1) := by decide +kernel
theorem dX8_moveOf_35 : decode cX8_moveOf 35 = .ok (.ireturn, 1) := by decide +kernel
theorem dX8_moveOf_36 : decode cX8_moveOf 36 = .ok (.iconst 0, 1) := by decide +kernel
theorem dX8_moveOf_37 : decode cX8_moveOf 37 = .ok (.aload_n 0, 1) := by decide +kernel
theorem dX8_moveOf_38 : decode cX8_moveOf 38 = .ok (.getfield 24, 3) := by decide +kernel
theorem dX8_moveOf_41 : decode cX8_moveOf 41 = .ok (.aload_n 1, 1) := by decide +kernel
theorem dX8_moveOf_42 : decode cX8_moveOf 42 = .ok (.iload_n 3, 1) := by decide +kernel
theorem dX8_moveOf_43 : decode cX8_moveOf 43 = .ok (.invokevirtual 73, 3) := by decide +kernel
theorem dX8_moveOf_46 : decode cX8_moveOf 46 = .ok (.isub, 1) := by decide +kernel
theorem dX8_moveOf_47 : decode cX8_moveOf 47 = .ok (.invokestatic 77, 3) := by decide +kernel
theorem dX8_moveOf_50 : decode cX8_moveOf 50 = .ok (.ireturn, 1) := by decide +kernel
theorem dX8_travelBy_0 : decode cX8_travelBy 0 = .ok (.iload_n 2, 1) := by decide +kernel
theorem dX8_travelBy_1 : decode cX8_travelBy 1 = .ok (.iconst (-1), 1) := by decide +kernel
theorem dX8_travelBy_2 : decode cX8_travelBy 2 = .ok (.if_icmp .eq 11, 3) := by decide +kernel
theorem dX8_travelBy_5 : decode cX8_travelBy 5 = .ok (.iload_n 1, 1) := by decide +kernel
theorem dX8_travelBy_6 : decode cX8_travelBy 6 = .ok (.iload_n 2, 1) := by decide +kernel
theorem dX8_travelBy_7 : decode cX8_travelBy 7 = .ok (.invokestatic 69, 3) := by decide +kernel
theorem dX8_travelBy_10 : decode cX8_travelBy 10 = .ok (.ifCond .ne 5, 3) := by decide +kernel
theorem dX8_travelBy_13 : decode cX8_travelBy 13 = .ok (.iconst 0, 1) := by decide +kernel
theorem dX8_travelBy_14 : decode cX8_travelBy 14 = .ok (.ireturn, 1) := by decide +kernel
theorem dX8_travelBy_15 : decode cX8_travelBy 15 = .ok (.iconst 0, 1) := by decide +kernel
theorem dX8_travelBy_16 : decode cX8_travelBy 16 = .ok (.iload_n 3, 1) := by decide +kernel
theorem dX8_travelBy_17 : decode cX8_travelBy 17 = .ok (.aload_n 0, 1) := by decide +kernel
theorem dX8_travelBy_18 : decode cX8_travelBy 18 = .ok (.iload_n 2, 1) := by decide +kernel
theorem dX8_travelBy_19 : decode cX8_travelBy 19 = .ok (.invokevirtual 73, 3) := by decide +kernel
theorem dX8_travelBy_22 : decode cX8_travelBy 22 = .ok (.isub, 1) := by decide +kernel
theorem dX8_travelBy_23 : decode cX8_travelBy 23 = .ok (.invokestatic 77, 3) := by decide +kernel
theorem dX8_travelBy_26 : decode cX8_travelBy 26 = .ok (.ireturn, 1) := by decide +kernel
theorem dX9_init_0 : decode cX9_init 0 = .ok (.aload_n 0, 1) := by decide +kernel
theorem dX9_init_1 : decode cX9_init 1 = .ok (.invokespecial 3, 3) := by decide +kernel
theorem dX9_init_4 : decode cX9_init 4 = .ok (.aload_n 0, 1) := by decide +kernel
theorem dX9_init_5 : decode cX9_init 5 = .ok (.iconst 0, 1) := by decide +kernel
theorem dX9_init_6 : decode cX9_init 6 = .ok (.putfield 9, 3) := by decide +kernel
theorem dX9_init_9 : decode cX9_init 9 = .ok (.aload_n 0, 1) := by decide +kernel
theorem dX9_init_10 : decode cX9_init 10 = .ok (.iconst 5, 1) := by decide +kernel
theorem dX9_init_11 : decode cX9_init 11 = .ok (.newarray .int, 2) := by decide +kernel
theorem dX9_init_13 : decode cX9_init 13 = .ok (.putfield 15, 3) := by decide +kernel
theorem dX9_init_16 : decode cX9_init 16 = .ok (.aload_n 0, 1) := by decide +kernel
theorem dX9_init_17 : decode cX9_init 17 = .ok (.iconst 5, 1) := by decide +kernel
theorem dX9_init_18 : decode cX9_init 18 = .ok (.newarray .int, 2) := by decide +kernel
theorem dX9_init_20 : decode cX9_init 20 = .ok (.putfield 19, 3) := by decide +kernel
theorem dX9_init_23 : decode cX9_init 23 = .ok (.aload_n 0, 1) := by decide +kernel
theorem dX9_init_24 : decode cX9_init 24 = .ok (.iconst 5, 1) := by decide +kernel
theorem dX9_init_25 : decode cX9_init 25 = .ok (.newarray .int, 2) := by decide +kernel
theorem dX9_init_27 : decode cX9_init 27 = .ok (.putfield 22, 3) := by decide +kernel
theorem dX9_init_30 : decode cX9_init 30 = .ok (.aload_n 0, 1) := by decide +kernel
theorem dX9_init_31 : decode cX9_init 31 = .ok (.iconst 5, 1) := by decide +kernel
theorem dX9_init_32 : decode cX9_init 32 = .ok (.newarray .int, 2) := by decide +kernel
theorem dX9_init_34 : decode cX9_init 34 = .ok (.putfield 25, 3) := by decide +kernel
theorem dX9_init_37 : decode cX9_init 37 = .ok (.aload_n 0, 1) := by decide +kernel
theorem dX9_init_38 : decode cX9_init 38 = .ok (.iconst 0, 1) := by decide +kernel
theorem dX9_init_39 : decode cX9_init 39 = .ok (.putfield 28, 3) := by decide +kernel
theorem dX9_init_42 : decode cX9_init 42 = .ok (.aload_n 0, 1) := by decide +kernel
theorem dX9_init_43 : decode cX9_init 43 = .ok (.iconst 0, 1) := by decide +kernel
theorem dX9_init_44 : decode cX9_init 44 = .ok (.putfield 31, 3) := by decide +kernel
theorem dX9_init_47 : decode cX9_init 47 = .ok (.aload_n 0, 1) := by decide +kernel
theorem dX9_init_48 : decode cX9_init 48 = .ok (.iconst 0, 1) := by decide +kernel
theorem dX9_init_49 : decode cX9_init 49 = .ok (.putfield 34, 3) := by decide +kernel
theorem dX9_init_52 : decode cX9_init 52 = .ok (.aload_n 0, 1) := by decide +kernel
theorem dX9_init_53 : decode cX9_init 53 = .ok (.iconst 0, 1) := by decide +kernel
theorem dX9_init_54 : decode cX9_init 54 = .ok (.putfield 37, 3) := by decide +kernel
theorem dX9_init_57 : decode cX9_init 57 = .ok (.aload_n 0, 1) := by decide +kernel
theorem dX9_init_58 : decode cX9_init 58 = .ok (.iconst 5, 1) := by decide +kernel
theorem dX9_init_59 : decode cX9_init 59 = .ok (.newarray .int, 2) := by decide +kernel
theorem dX9_init_61 : decode cX9_init 61 = .ok (.putfield 40, 3) := by decide +kernel
theorem dX9_init_64 : decode cX9_init 64 = .ok (.aload_n 0, 1) := by decide +kernel
theorem dX9_init_65 : decode cX9_init 65 = .ok (.iconst 5, 1) := by decide +kernel
theorem dX9_init_66 : decode cX9_init 66 = .ok (.newarray .int, 2) := by decide +kernel
theorem dX9_init_68 : decode cX9_init 68 = .ok (.putfield 43, 3) := by decide +kernel
theorem dX9_init_71 : decode cX9_init 71 = .ok (.aload_n 0, 1) := by decide +kernel
theorem dX9_init_72 : decode cX9_init 72 = .ok (.iconst 0, 1) := by decide +kernel
theorem dX9_init_73 : decode cX9_init 73 = .ok (.putfield 46, 3) := by decide +kernel
theorem dX9_init_76 : decode cX9_init 76 = .ok (.aload_n 0, 1) := by decide +kernel
theorem dX9_init_77 : decode cX9_init 77 = .ok (.iconst 4, 1) := by decide +kernel
theorem dX9_init_78 : decode cX9_init 78 = .ok (.newarray .int, 2) := by decide +kernel
theorem dX9_init_80 : decode cX9_init 80 = .ok (.putfield 49, 3) := by decide +kernel
theorem dX9_init_83 : decode cX9_init 83 = .ok (.aload_n 0, 1) := by decide +kernel
theorem dX9_init_84 : decode cX9_init 84 = .ok (.iconst 4, 1) := by decide +kernel
theorem dX9_init_85 : decode cX9_init 85 = .ok (.newarray .int, 2) := by decide +kernel
theorem dX9_init_87 : decode cX9_init 87 = .ok (.putfield 52, 3) := by decide +kernel
theorem dX9_init_90 : decode cX9_init 90 = .ok (.aload_n 0, 1) := by decide +kernel
theorem dX9_init_91 : decode cX9_init 91 = .ok (.iconst 4, 1) := by decide +kernel
theorem dX9_init_92 : decode cX9_init 92 = .ok (.newarray .int, 2) := by decide +kernel
theorem dX9_init_94 : decode cX9_init 94 = .ok (.putfield 55, 3) := by decide +kernel
theorem dX9_init_97 : decode cX9_init 97 = .ok (.aload_n 0, 1) := by decide +kernel
theorem dX9_init_98 : decode cX9_init 98 = .ok (.iconst 0, 1) := by decide +kernel
theorem dX9_init_99 : decode cX9_init 99 = .ok (.putfield 58, 3) := by decide +kernel
theorem dX9_init_102 : decode cX9_init 102 = .ok (.aload_n 0, 1) := by decide +kernel
theorem dX9_init_103 : decode cX9_init 103 = .ok (.bipush 10, 2) := by decide +kernel
theorem dX9_init_105 : decode cX9_init 105 = .ok (.newarray .int, 2) := by decide +kernel
theorem dX9_init_107 : decode cX9_init 107 = .ok (.putfield 61, 3) := by decide +kernel
theorem dX9_init_110 : decode cX9_init 110 = .ok (.return_, 1) := by decide +kernel
theorem dX9_becomeEmpty_0 : decode cX9_becomeEmpty 0 = .ok (.aload_n 0, 1) := by decide +kernel
theorem dX9_becomeEmpty_1 : decode cX9_becomeEmpty 1 = .ok (.iconst 0, 1) := by decide +kernel
theorem dX9_becomeEmpty_2 : decode cX9_becomeEmpty 2 = .ok (.putfield 9, 3) := by decide +kernel
theorem dX9_becomeEmpty_5 : decode cX9_becomeEmpty 5 = .ok (.aload_n 0, 1) := by decide +kernel
theorem dX9_becomeEmpty_6 : decode cX9_becomeEmpty 6 = .ok (.iconst 0, 1) := by decide +kernel
theorem dX9_becomeEmpty_7 : decode cX9_becomeEmpty 7 = .ok (.putfield 28, 3) := by decide +kernel
theorem dX9_becomeEmpty_10 : decode cX9_becomeEmpty 10 = .ok (.aload_n 0, 1) := by decide +kernel
theorem dX9_becomeEmpty_11 : decode cX9_becomeEmpty 11 = .ok (.iconst 0, 1) := by decide +kernel
theorem dX9_becomeEmpty_12 : decode cX9_becomeEmpty 12 = .ok (.putfield 31, 3) := by decide +kernel
theorem dX9_becomeEmpty_15 : decode cX9_becomeEmpty 15 = .ok (.aload_n 0, 1) := by decide +kernel
theorem dX9_becomeEmpty_16 : decode cX9_becomeEmpty 16 = .ok (.iconst 0, 1) := by decide +kernel
theorem dX9_becomeEmpty_17 : decode cX9_becomeEmpty 17 = .ok (.putfield 34, 3) := by decide +kernel
theorem dX9_becomeEmpty_20 : decode cX9_becomeEmpty 20 = .ok (.aload_n 0, 1) := by decide +kernel
theorem dX9_becomeEmpty_21 : decode cX9_becomeEmpty 21 = .ok (.iconst 0, 1) := by decide +kernel
theorem dX9_becomeEmpty_22 : decode cX9_becomeEmpty 22 = .ok (.putfield 37, 3) := by decide +kernel
theorem dX9_becomeEmpty_25 : decode cX9_becomeEmpty 25 = .ok (.aload_n 0, 1) := by decide +kernel
theorem dX9_becomeEmpty_26 : decode cX9_becomeEmpty 26 = .ok (.iconst 0, 1) := by decide +kernel
theorem dX9_becomeEmpty_27 : decode cX9_becomeEmpty 27 = .ok (.putfield 46, 3) := by decide +kernel
theorem dX9_becomeEmpty_30 : decode cX9_becomeEmpty 30 = .ok (.aload_n 0, 1) := by decide +kernel
theorem dX9_becomeEmpty_31 : decode cX9_becomeEmpty 31 = .ok (.iconst 0, 1) := by decide +kernel
theorem dX9_becomeEmpty_32 : decode cX9_becomeEmpty 32 = .ok (.putfield 58, 3) := by decide +kernel
theorem dX9_becomeEmpty_35 : decode cX9_becomeEmpty 35 = .ok (.return_, 1) := by decide +kernel
theorem dX9_becomeLike_0 : decode cX9_becomeLike 0 = .ok (.aload_n 0, 1) := by decide +kernel
theorem dX9_becomeLike_1 : decode cX9_becomeLike 1 = .ok (.aload_n 1, 1) := by decide +kernel
theorem dX9_becomeLike_2 : decode cX9_becomeLike 2 = .ok (.getfield 9, 3) := by decide +kernel
theorem dX9_becomeLike_5 : decode cX9_becomeLike 5 = .ok (.putfield 9, 3) := by decide +kernel
theorem dX9_becomeLike_8 : decode cX9_becomeLike 8 = .ok (.aload_n 1, 1) := by decide +kernel
theorem dX9_becomeLike_9 : decode cX9_becomeLike 9 = .ok (.getfield 15, 3) := by decide +kernel
theorem dX9_becomeLike_12 : decode cX9_becomeLike 12 = .ok (.iconst 0, 1) := by decide +kernel
theorem dX9_becomeLike_13 : decode cX9_becomeLike 13 = .ok (.aload_n 0, 1) := by decide +kernel
theorem dX9_becomeLike_14 : decode cX9_becomeLike 14 = .ok (.getfield 15, 3) := by decide +kernel
theorem dX9_becomeLike_17 : decode cX9_becomeLike 17 = .ok (.iconst 0, 1) := by decide +kernel
theorem dX9_becomeLike_18 : decode cX9_becomeLike 18 = .ok (.iconst 5, 1) := by decide +kernel
theorem dX9_becomeLike_19 : decode cX9_becomeLike 19 = .ok (.invokestatic 64, 3) := by decide +kernel
theorem dX9_becomeLike_22 : decode cX9_becomeLike 22 = .ok (.aload_n 1, 1) := by decide +kernel
theorem dX9_becomeLike_23 : decode cX9_becomeLike 23 = .ok (.getfield 19, 3) := by decide +kernel
theorem dX9_becomeLike_26 : decode cX9_becomeLike 26 = .ok (.iconst 0, 1) := by decide +kernel
theorem dX9_becomeLike_27 : decode cX9_becomeLike 27 = .ok (.aload_n 0, 1) := by decide +kernel
theorem dX9_becomeLike_28 : decode cX9_becomeLike 28 = .ok (.getfield 19, 3) := by decide +kernel
theorem dX9_becomeLike_31 : decode cX9_becomeLike 31 = .ok (.iconst 0, 1) := by decide +kernel
theorem dX9_becomeLike_32 : decode cX9_becomeLike 32 = .ok (.iconst 5, 1) := by decide +kernel
theorem dX9_becomeLike_33 : decode cX9_becomeLike 33 = .ok (.invokestatic 64, 3) := by decide +kernel
theorem dX9_becomeLike_36 : decode cX9_becomeLike 36 = .ok (.aload_n 1, 1) := by decide +kernel
theorem dX9_becomeLike_37 : decode cX9_becomeLike 37 = .ok (.getfield 22, 3) := by decide +kernel
theorem dX9_becomeLike_40 : decode cX9_becomeLike 40 = .ok (.iconst 0, 1) := by decide +kernel
theorem dX9_becomeLike_41 : decode cX9_becomeLike 41 = .ok (.aload_n 0, 1) := by decide +kernel
theorem dX9_becomeLike_42 : decode cX9_becomeLike 42 = .ok (.getfield 22, 3) := by decide +kernel
theorem dX9_becomeLike_45 : decode cX9_becomeLike 45 = .ok (.iconst 0, 1) := by decide +kernel
theorem dX9_becomeLike_46 : decode cX9_becomeLike 46 = .ok (.iconst 5, 1) := by decide +kernel
theorem dX9_becomeLike_47 : decode cX9_becomeLike 47 = .ok (.invokestatic 64, 3) := by decide +kernel
theorem dX9_becomeLike_50 : decode cX9_becomeLike 50 = .ok (.aload_n 1, 1) := by decide +kernel
theorem dX9_becomeLike_51 : decode cX9_becomeLike 51 = .ok (.getfield 25, 3) := by decide +kernel
theorem dX9_becomeLike_54 : decode cX9_becomeLike 54 = .ok (.iconst 0, 1) := by decide +kernel
theorem dX9_becomeLike_55 : decode cX9_becomeLike 55 = .ok (.aload_n 0, 1) := by decide +kernel
theorem dX9_becomeLike_56 : decode cX9_becomeLike 56 = .ok (.getfield 25, 3) := by decide +kernel
theorem dX9_becomeLike_59 : decode cX9_becomeLike 59 = .ok (.iconst 0, 1) := by decide +kernel
theorem dX9_becomeLike_60 : decode cX9_becomeLike 60 = .ok (.iconst 5, 1) := by decide +kernel
theorem dX9_becomeLike_61 : decode cX9_becomeLike 61 = .ok (.invokestatic 64, 3) := by decide +kernel
theorem dX9_becomeLike_64 : decode cX9_becomeLike 64 = .ok (.aload_n 0, 1) := by decide +kernel
theorem dX9_becomeLike_65 : decode cX9_becomeLike 65 = .ok (.aload_n 1, 1) := by decide +kernel
theorem dX9_becomeLike_66 : decode cX9_becomeLike 66 = .ok (.getfield 28, 3) := by decide +kernel
theorem dX9_becomeLike_69 : decode cX9_becomeLike 69 = .ok (.putfield 28, 3) := by decide +kernel
theorem dX9_becomeLike_72 : decode cX9_becomeLike 72 = .ok (.aload_n 0, 1) := by decide +kernel
theorem dX9_becomeLike_73 : decode cX9_becomeLike 73 = .ok (.aload_n 1, 1) := by decide +kernel
theorem dX9_becomeLike_74 : decode cX9_becomeLike 74 = .ok (.getfield 31, 3) := by decide +kernel
theorem dX9_becomeLike_77 : decode cX9_becomeLike 77 = .ok (.putfield 31, 3) := by decide +kernel
theorem dX9_becomeLike_80 : decode cX9_becomeLike 80 = .ok (.aload_n 0, 1) := by decide +kernel
theorem dX9_becomeLike_81 : decode cX9_becomeLike 81 = .ok (.aload_n 1, 1) := by decide +kernel
theorem dX9_becomeLike_82 : decode cX9_becomeLike 82 = .ok (.getfield 34, 3) := by decide +kernel
theorem dX9_becomeLike_85 : decode cX9_becomeLike 85 = .ok (.putfield 34, 3) := by decide +kernel
theorem dX9_becomeLike_88 : decode cX9_becomeLike 88 = .ok (.aload_n 0, 1) := by decide +kernel
theorem dX9_becomeLike_89 : decode cX9_becomeLike 89 = .ok (.aload_n 1, 1) := by decide +kernel
theorem dX9_becomeLike_90 : decode cX9_becomeLike 90 = .ok (.getfield 37, 3) := by decide +kernel
theorem dX9_becomeLike_93 : decode cX9_becomeLike 93 = .ok (.putfield 37, 3) := by decide +kernel
theorem dX9_becomeLike_96 : decode cX9_becomeLike 96 = .ok (.aload_n 1, 1) := by decide +kernel
theorem dX9_becomeLike_97 : decode cX9_becomeLike 97 = .ok (.getfield 40, 3) := by decide +kernel
theorem dX9_becomeLike_100 : decode cX9_becomeLike 100 = .ok (.iconst 0, 1) := by decide +kernel
theorem dX9_becomeLike_101 : decode cX9_becomeLike 101 = .ok (.aload_n 0, 1) := by decide +kernel
theorem dX9_becomeLike_102 : decode cX9_becomeLike 102 = .ok (.getfield 40, 3) := by decide +kernel
theorem dX9_becomeLike_105 : decode cX9_becomeLike 105 = .ok (.iconst 0, 1) := by decide +kernel
theorem dX9_becomeLike_106 : decode cX9_becomeLike 106 = .ok (.iconst 5, 1) := by decide +kernel
theorem dX9_becomeLike_107 : decode cX9_becomeLike 107 = .ok (.invokestatic 64, 3) := by decide +kernel
theorem dX9_becomeLike_110 : decode cX9_becomeLike 110 = .ok (.aload_n 1, 1) := by decide +kernel
theorem dX9_becomeLike_111 : decode cX9_becomeLike 111 = .ok (.getfield 43, 3) := by decide +kernel
theorem dX9_becomeLike_114 : decode cX9_becomeLike 114 = .ok (.iconst 0, 1) := by decide +kernel
theorem dX9_becomeLike_115 : decode cX9_becomeLike 115 = .ok (.aload_n 0, 1) := by decide +kernel
theorem dX9_becomeLike_116 : decode cX9_becomeLike 116 = .ok (.getfield 43, 3) := by decide +kernel
theorem dX9_becomeLike_119 : decode cX9_becomeLike 119 = .ok (.iconst 0, 1) := by decide +kernel
theorem dX9_becomeLike_120 : decode cX9_becomeLike 120 = .ok (.iconst 5, 1) := by decide +kernel
theorem dX9_becomeLike_121 : decode cX9_becomeLike 121 = .ok (.invokestatic 64, 3) := by decide +kernel
theorem dX9_becomeLike_124 : decode cX9_becomeLike 124 = .ok (.aload_n 0, 1) := by decide +kernel
theorem dX9_becomeLike_125 : decode cX9_becomeLike 125 = .ok (.aload_n 1, 1) := by decide +kernel
theorem dX9_becomeLike_126 : decode cX9_becomeLike 126 = .ok (.getfield 46, 3) := by decide +kernel
theorem dX9_becomeLike_129 : decode cX9_becomeLike 129 = .ok (.putfield 46, 3) := by decide +kernel
theorem dX9_becomeLike_132 : decode cX9_becomeLike 132 = .ok (.aload_n 1, 1) := by decide +kernel
theorem dX9_becomeLike_133 : decode cX9_becomeLike 133 = .ok (.getfield 49, 3) := by decide +kernel
theorem dX9_becomeLike_136 : decode cX9_becomeLike 136 = .ok (.iconst 0, 1) := by decide +kernel
theorem dX9_becomeLike_137 : decode cX9_becomeLike 137 = .ok (.aload_n 0, 1) := by decide +kernel
theorem dX9_becomeLike_138 : decode cX9_becomeLike 138 = .ok (.getfield 49, 3) := by decide +kernel
theorem dX9_becomeLike_141 : decode cX9_becomeLike 141 = .ok (.iconst 0, 1) := by decide +kernel
theorem dX9_becomeLike_142 : decode cX9_becomeLike 142 = .ok (.iconst 4, 1) := by decide +kernel
theorem dX9_becomeLike_143 : decode cX9_becomeLike 143 = .ok (.invokestatic 64, 3) := by decide +kernel
theorem dX9_becomeLike_146 : decode cX9_becomeLike 146 = .ok (.aload_n 1, 1) := by decide +kernel
theorem dX9_becomeLike_147 : decode cX9_becomeLike 147 = .ok (.getfield 52, 3) := by decide +kernel
theorem dX9_becomeLike_150 : decode cX9_becomeLike 150 = .ok (.iconst 0, 1) := by decide +kernel
theorem dX9_becomeLike_151 : decode cX9_becomeLike 151 = .ok (.aload_n 0, 1) := by decide +kernel
theorem dX9_becomeLike_152 : decode cX9_becomeLike 152 = .ok (.getfield 52, 3) := by decide +kernel
theorem dX9_becomeLike_155 : decode cX9_becomeLike 155 = .ok (.iconst 0, 1) := by decide +kernel
theorem dX9_becomeLike_156 : decode cX9_becomeLike 156 = .ok (.iconst 4, 1) := by decide +kernel
theorem dX9_becomeLike_157 : decode cX9_becomeLike 157 = .ok (.invokestatic 64, 3) := by decide +kernel
theorem dX9_becomeLike_160 : decode cX9_becomeLike 160 = .ok (.aload_n 1, 1) := by decide +kernel
theorem dX9_becomeLike_161 : decode cX9_becomeLike 161 = .ok (.getfield 55, 3) := by decide +kernel
theorem dX9_becomeLike_164 : decode cX9_becomeLike 164 = .ok (.iconst 0, 1) := by decide +kernel
theorem dX9_becomeLike_165 : decode cX9_becomeLike 165 = .ok (.aload_n 0, 1) := by decide +kernel
theorem dX9_becomeLike_166 : decode cX9_becomeLike 166 = .ok (.getfield 55, 3) := by decide +kernel
theorem dX9_becomeLike_169 : decode cX9_becomeLike 169 = .ok (.iconst 0, 1) := by decide +kernel
theorem dX9_becomeLike_170 : decode cX9_becomeLike 170 = .ok (.iconst 4, 1) := by decide +kernel
theorem dX9_becomeLike_171 : decode cX9_becomeLike 171 = .ok (.invokestatic 64, 3) := by decide +kernel
theorem dX9_becomeLike_174 : decode cX9_becomeLike 174 = .ok (.aload_n 0, 1) := by decide +kernel
theorem dX9_becomeLike_175 : decode cX9_becomeLike 175 = .ok (.aload_n 1, 1) := by decide +kernel
theorem dX9_becomeLike_176 : decode cX9_becomeLike 176 = .ok (.getfield 58, 3) := by decide +kernel
theorem dX9_becomeLike_179 : decode cX9_becomeLike 179 = .ok (.putfield 58, 3) := by decide +kernel
theorem dX9_becomeLike_182 : decode cX9_becomeLike 182 = .ok (.aload_n 1, 1) := by decide +kernel
theorem dX9_becomeLike_183 : decode cX9_becomeLike 183 = .ok (.getfield 61, 3) := by decide +kernel
theorem dX9_becomeLike_186 : decode cX9_becomeLike 186 = .ok (.iconst 0, 1) := by decide +kernel
theorem dX9_becomeLike_187 : decode cX9_becomeLike 187 = .ok (.aload_n 0, 1) := by decide +kernel
theorem dX9_becomeLike_188 : decode cX9_becomeLike 188 = .ok (.getfield 61, 3) := by decide +kernel
theorem dX9_becomeLike_191 : decode cX9_becomeLike 191 = .ok (.iconst 0, 1) := by decide +kernel
theorem dX9_becomeLike_192 : decode cX9_becomeLike 192 = .ok (.bipush 10, 2) := by decide +kernel
theorem dX9_becomeLike_194 : decode cX9_becomeLike 194 = .ok (.invokestatic 64, 3) := by decide +kernel
theorem dX9_becomeLike_197 : decode cX9_becomeLike 197 = .ok (.return_, 1) := by decide +kernel
theorem dX9_hasThing_0 : decode cX9_hasThing 0 = .ok (.iload_n 1, 1) := by decide +kernel
theorem dX9_hasThing_1 : decode cX9_hasThing 1 = .ok (.iconst 0, 1) := by decide +kernel
theorem dX9_hasThing_2 : decode cX9_hasThing 2 = .ok (.aload_n 0, 1) := by decide +kernel
theorem dX9_hasThing_3 : decode cX9_hasThing 3 = .ok (.getfield 9, 3) := by decide +kernel
theorem dX9_hasThing_6 : decode cX9_hasThing 6 = .ok (.iconst 1, 1) := by decide +kernel
theorem dX9_hasThing_7 : decode cX9_hasThing 7 = .ok (.isub, 1) := by decide +kernel
theorem dX9_hasThing_8 : decode cX9_hasThing 8 = .ok (.invokestatic 70, 3) := by decide +kernel
theorem dX9_hasThing_11 : decode cX9_hasThing 11 = .ok (.ireturn, 1) := by decide +kernel
theorem dX9_hasSet_0 : decode cX9_hasSet 0 = .ok (.iload_n 1, 1) := by decide +kernel
theorem dX9_hasSet_1 : decode cX9_hasSet 1 = .ok (.iconst 0, 1) := by decide +kernel
theorem dX9_hasSet_2 : decode cX9_hasSet 2 = .ok (.iconst 1, 1) := by decide +kernel
theorem dX9_hasSet_3 : decode cX9_hasSet 3 = .ok (.aload_n 0, 1) := by decide +kernel
theorem dX9_hasSet_4 : decode cX9_hasSet 4 = .ok (.getfield 9, 3) := by decide +kernel
theorem dX9_hasSet_7 : decode cX9_hasSet 7 = .ok (.ishl, 1) := by decide +kernel
theorem dX9_hasSet_8 : decode cX9_hasSet 8 = .ok (.iconst 1, 1) := by decide +kernel
theorem dX9_hasSet_9 : decode cX9_hasSet 9 = .ok (.isub, 1) := by decide +kernel
theorem dX9_hasSet_10 : decode cX9_hasSet 10 = .ok (.invokestatic 70, 3) := by decide +kernel
theorem dX9_hasSet_13 : decode cX9_hasSet 13 = .ok (.ireturn, 1) := by decide +kernel
theorem dX9_addThing_0 : decode cX9_addThing 0 = .ok (.aload_n 0, 1) := by decide +kernel
theorem dX9_addThing_1 : decode cX9_addThing 1 = .ok (.getfield 9, 3) := by decide +kernel
theorem dX9_addThing_4 : decode cX9_addThing 4 = .ok (.iconst 5, 1) := by decide +kernel
theorem dX9_addThing_5 : decode cX9_addThing 5 = .ok (.if_icmp .lt 4, 3) := by decide +kernel
theorem dX9_addThing_8 : decode cX9_addThing 8 = .ok (.return_, 1) := by decide +kernel
theorem dX9_addThing_9 : decode cX9_addThing 9 = .ok (.aload_n 0, 1) := by decide +kernel
theorem dX9_addThing_10 : decode cX9_addThing 10 = .ok (.getfield 15, 3) := by decide +kernel
theorem dX9_addThing_13 : decode cX9_addThing 13 = .ok (.aload_n 0, 1) := by decide +kernel
theorem dX9_addThing_14 : decode cX9_addThing 14 = .ok (.getfield 9, 3) := by decide +kernel
theorem dX9_addThing_17 : decode cX9_addThing 17 = .ok (.iload_n 1, 1) := by decide +kernel
theorem dX9_addThing_18 : decode cX9_addThing 18 = .ok (.iastore, 1) := by decide +kernel
theorem dX9_addThing_19 : decode cX9_addThing 19 = .ok (.aload_n 0, 1) := by decide +kernel
theorem dX9_addThing_20 : decode cX9_addThing 20 = .ok (.getfield 19, 3) := by decide +kernel
theorem dX9_addThing_23 : decode cX9_addThing 23 = .ok (.aload_n 0, 1) := by decide +kernel
theorem dX9_addThing_24 : decode cX9_addThing 24 = .ok (.getfield 9, 3) := by decide +kernel
theorem dX9_addThing_27 : decode cX9_addThing 27 = .ok (.iload_n 2, 1) := by decide +kernel
theorem dX9_addThing_28 : decode cX9_addThing 28 = .ok (.iastore, 1) := by decide +kernel
theorem dX9_addThing_29 : decode cX9_addThing 29 = .ok (.aload_n 0, 1) := by decide +kernel
theorem dX9_addThing_30 : decode cX9_addThing 30 = .ok (.getfield 22, 3) := by decide +kernel
theorem dX9_addThing_33 : decode cX9_addThing 33 = .ok (.aload_n 0, 1) := by decide +kernel
theorem dX9_addThing_34 : decode cX9_addThing 34 = .ok (.getfield 9, 3) := by decide +kernel
theorem dX9_addThing_37 : decode cX9_addThing 37 = .ok (.iload_n 3, 1) := by decide +kernel
theorem dX9_addThing_38 : decode cX9_addThing 38 = .ok (.iastore, 1) := by decide +kernel
theorem dX9_addThing_39 : decode cX9_addThing 39 = .ok (.aload_n 0, 1) := by decide +kernel
theorem dX9_addThing_40 : decode cX9_addThing 40 = .ok (.getfield 25, 3) := by decide +kernel
theorem dX9_addThing_43 : decode cX9_addThing 43 = .ok (.aload_n 0, 1) := by decide +kernel
theorem dX9_addThing_44 : decode cX9_addThing 44 = .ok (.getfield 9, 3) := by decide +kernel
theorem dX9_addThing_47 : decode cX9_addThing 47 = .ok (.iload 4, 2) := by decide +kernel
theorem dX9_addThing_49 : decode cX9_addThing 49 = .ok (.iastore, 1) := by decide +kernel
theorem dX9_addThing_50 : decode cX9_addThing 50 = .ok (.aload_n 0, 1) := by decide +kernel
theorem dX9_addThing_51 : decode cX9_addThing 51 = .ok (.dup, 1) := by decide +kernel
theorem dX9_addThing_52 : decode cX9_addThing 52 = .ok (.getfield 28, 3) := by decide +kernel
theorem dX9_addThing_55 : decode cX9_addThing 55 = .ok (.iconst 1, 1) := by decide +kernel
theorem dX9_addThing_56 : decode cX9_addThing 56 = .ok (.aload_n 0, 1) := by decide +kernel
theorem dX9_addThing_57 : decode cX9_addThing 57 = .ok (.getfield 9, 3) := by decide +kernel
theorem dX9_addThing_60 : decode cX9_addThing 60 = .ok (.ishl, 1) := by decide +kernel
theorem dX9_addThing_61 : decode cX9_addThing 61 = .ok (.ior, 1) := by decide +kernel
theorem dX9_addThing_62 : decode cX9_addThing 62 = .ok (.putfield 28, 3) := by decide +kernel
theorem dX9_addThing_65 : decode cX9_addThing 65 = .ok (.aload_n 0, 1) := by decide +kernel
theorem dX9_addThing_66 : decode cX9_addThing 66 = .ok (.dup, 1) := by decide +kernel
theorem dX9_addThing_67 : decode cX9_addThing 67 = .ok (.getfield 9, 3) := by decide +kernel
theorem dX9_addThing_70 : decode cX9_addThing 70 = .ok (.iconst 1, 1) := by decide +kernel
theorem dX9_addThing_71 : decode cX9_addThing 71 = .ok (.iadd, 1) := by decide +kernel
theorem dX9_addThing_72 : decode cX9_addThing 72 = .ok (.putfield 9, 3) := by decide +kernel
theorem dX9_addThing_75 : decode cX9_addThing 75 = .ok (.return_, 1) := by decide +kernel
theorem dX9_addErrand_0 : decode cX9_addErrand 0 = .ok (.aload_n 0, 1) := by decide +kernel
theorem dX9_addErrand_1 : decode cX9_addErrand 1 = .ok (.getfield 37, 3) := by decide +kernel
theorem dX9_addErrand_4 : decode cX9_addErrand 4 = .ok (.iconst 5, 1) := by decide +kernel
theorem dX9_addErrand_5 : decode cX9_addErrand 5 = .ok (.if_icmp .lt 4, 3) := by decide +kernel
theorem dX9_addErrand_8 : decode cX9_addErrand 8 = .ok (.return_, 1) := by decide +kernel
theorem dX9_addErrand_9 : decode cX9_addErrand 9 = .ok (.aload_n 0, 1) := by decide +kernel
theorem dX9_addErrand_10 : decode cX9_addErrand 10 = .ok (.getfield 40, 3) := by decide +kernel
theorem dX9_addErrand_13 : decode cX9_addErrand 13 = .ok (.aload_n 0, 1) := by decide +kernel
theorem dX9_addErrand_14 : decode cX9_addErrand 14 = .ok (.getfield 37, 3) := by decide +kernel
theorem dX9_addErrand_17 : decode cX9_addErrand 17 = .ok (.iload_n 1, 1) := by decide +kernel
theorem dX9_addErrand_18 : decode cX9_addErrand 18 = .ok (.iastore, 1) := by decide +kernel
theorem dX9_addErrand_19 : decode cX9_addErrand 19 = .ok (.aload_n 0, 1) := by decide +kernel
theorem dX9_addErrand_20 : decode cX9_addErrand 20 = .ok (.getfield 43, 3) := by decide +kernel
theorem dX9_addErrand_23 : decode cX9_addErrand 23 = .ok (.aload_n 0, 1) := by decide +kernel
theorem dX9_addErrand_24 : decode cX9_addErrand 24 = .ok (.getfield 37, 3) := by decide +kernel
theorem dX9_addErrand_27 : decode cX9_addErrand 27 = .ok (.iload_n 2, 1) := by decide +kernel
theorem dX9_addErrand_28 : decode cX9_addErrand 28 = .ok (.iastore, 1) := by decide +kernel
theorem dX9_addErrand_29 : decode cX9_addErrand 29 = .ok (.aload_n 0, 1) := by decide +kernel
theorem dX9_addErrand_30 : decode cX9_addErrand 30 = .ok (.dup, 1) := by decide +kernel
theorem dX9_addErrand_31 : decode cX9_addErrand 31 = .ok (.getfield 37, 3) := by decide +kernel
theorem dX9_addErrand_34 : decode cX9_addErrand 34 = .ok (.iconst 1, 1) := by decide +kernel
theorem dX9_addErrand_35 : decode cX9_addErrand 35 = .ok (.iadd, 1) := by decide +kernel
theorem dX9_addErrand_36 : decode cX9_addErrand 36 = .ok (.putfield 37, 3) := by decide +kernel
theorem dX9_addErrand_39 : decode cX9_addErrand 39 = .ok (.return_, 1) := by decide +kernel
theorem dX9_addRule_0 : decode cX9_addRule 0 = .ok (.aload_n 0, 1) := by decide +kernel
theorem dX9_addRule_1 : decode cX9_addRule 1 = .ok (.getfield 46, 3) := by decide +kernel
theorem dX9_addRule_4 : decode cX9_addRule 4 = .ok (.iconst 4, 1) := by decide +kernel
theorem dX9_addRule_5 : decode cX9_addRule 5 = .ok (.if_icmp .lt 4, 3) := by decide +kernel
theorem dX9_addRule_8 : decode cX9_addRule 8 = .ok (.return_, 1) := by decide +kernel
theorem dX9_addRule_9 : decode cX9_addRule 9 = .ok (.aload_n 0, 1) := by decide +kernel
theorem dX9_addRule_10 : decode cX9_addRule 10 = .ok (.getfield 49, 3) := by decide +kernel
theorem dX9_addRule_13 : decode cX9_addRule 13 = .ok (.aload_n 0, 1) := by decide +kernel
theorem dX9_addRule_14 : decode cX9_addRule 14 = .ok (.getfield 46, 3) := by decide +kernel
theorem dX9_addRule_17 : decode cX9_addRule 17 = .ok (.iload_n 1, 1) := by decide +kernel
theorem dX9_addRule_18 : decode cX9_addRule 18 = .ok (.iastore, 1) := by decide +kernel
theorem dX9_addRule_19 : decode cX9_addRule 19 = .ok (.aload_n 0, 1) := by decide +kernel
theorem dX9_addRule_20 : decode cX9_addRule 20 = .ok (.getfield 52, 3) := by decide +kernel
theorem dX9_addRule_23 : decode cX9_addRule 23 = .ok (.aload_n 0, 1) := by decide +kernel
theorem dX9_addRule_24 : decode cX9_addRule 24 = .ok (.getfield 46, 3) := by decide +kernel
theorem dX9_addRule_27 : decode cX9_addRule 27 = .ok (.iload_n 2, 1) := by decide +kernel
theorem dX9_addRule_28 : decode cX9_addRule 28 = .ok (.iastore, 1) := by decide +kernel
theorem dX9_addRule_29 : decode cX9_addRule 29 = .ok (.aload_n 0, 1) := by decide +kernel
theorem dX9_addRule_30 : decode cX9_addRule 30 = .ok (.getfield 55, 3) := by decide +kernel
theorem dX9_addRule_33 : decode cX9_addRule 33 = .ok (.aload_n 0, 1) := by decide +kernel
theorem dX9_addRule_34 : decode cX9_addRule 34 = .ok (.getfield 46, 3) := by decide +kernel
theorem dX9_addRule_37 : decode cX9_addRule 37 = .ok (.iload_n 3, 1) := by decide +kernel
theorem dX9_addRule_38 : decode cX9_addRule 38 = .ok (.iastore, 1) := by decide +kernel
theorem dX9_addRule_39 : decode cX9_addRule 39 = .ok (.aload_n 0, 1) := by decide +kernel
theorem dX9_addRule_40 : decode cX9_addRule 40 = .ok (.dup, 1) := by decide +kernel
theorem dX9_addRule_41 : decode cX9_addRule 41 = .ok (.getfield 46, 3) := by decide +kernel
theorem dX9_addRule_44 : decode cX9_addRule 44 = .ok (.iconst 1, 1) := by decide +kernel
theorem dX9_addRule_45 : decode cX9_addRule 45 = .ok (.iadd, 1) := by decide +kernel
theorem dX9_addRule_46 : decode cX9_addRule 46 = .ok (.putfield 46, 3) := by decide +kernel
theorem dX9_addRule_49 : decode cX9_addRule 49 = .ok (.return_, 1) := by decide +kernel
theorem dX9_slackInDamp_0 : decode cX9_slackInDamp 0 = .ok (.iconst 0, 1) := by decide +kernel
theorem dX9_slackInDamp_1 : decode cX9_slackInDamp 1 = .ok (.aload_n 0, 1) := by decide +kernel
theorem dX9_slackInDamp_2 : decode cX9_slackInDamp 2 = .ok (.getfield 19, 3) := by decide +kernel
theorem dX9_slackInDamp_5 : decode cX9_slackInDamp 5 = .ok (.iload_n 1, 1) := by decide +kernel
theorem dX9_slackInDamp_6 : decode cX9_slackInDamp 6 = .ok (.iaload, 1) := by decide +kernel
theorem dX9_slackInDamp_7 : decode cX9_slackInDamp 7 = .ok (.aload_n 0, 1) := by decide +kernel
theorem dX9_slackInDamp_8 : decode cX9_slackInDamp 8 = .ok (.getfield 31, 3) := by decide +kernel
theorem dX9_slackInDamp_11 : decode cX9_slackInDamp 11 = .ok (.isub, 1) := by decide +kernel
theorem dX9_slackInDamp_12 : decode cX9_slackInDamp 12 = .ok (.invokestatic 74, 3) := by decide +kernel
theorem dX9_slackInDamp_15 : decode cX9_slackInDamp 15 = .ok (.ireturn, 1) := by decide +kernel
theorem dX9_harmOf_0 : decode cX9_harmOf 0 = .ok (.iconst 0, 1) := by decide +kernel
theorem dX9_harmOf_1 : decode cX9_harmOf 1 = .ok (.istore_n 2, 1) := by decide +kernel
theorem dX9_harmOf_2 : decode cX9_harmOf 2 = .ok (.iconst 0, 1) := by decide +kernel
theorem dX9_harmOf_3 : decode cX9_harmOf 3 = .ok (.istore_n 3, 1) := by decide +kernel
theorem dX9_harmOf_4 : decode cX9_harmOf 4 = .ok (.iload_n 3, 1) := by decide +kernel
theorem dX9_harmOf_5 : decode cX9_harmOf 5 = .ok (.aload_n 0, 1) := by decide +kernel
theorem dX9_harmOf_6 : decode cX9_harmOf 6 = .ok (.getfield 9, 3) := by decide +kernel
theorem dX9_harmOf_9 : decode cX9_harmOf 9 = .ok (.if_icmp .ge 26, 3) := by decide +kernel
theorem dX9_harmOf_12 : decode cX9_harmOf 12 = .ok (.iload_n 1, 1) := by decide +kernel
theorem dX9_harmOf_13 : decode cX9_harmOf 13 = .ok (.iload_n 3, 1) := by decide +kernel
theorem dX9_harmOf_14 : decode cX9_harmOf 14 = .ok (.invokestatic 80, 3) := by decide +kernel
theorem dX9_harmOf_17 : decode cX9_harmOf 17 = .ok (.ifCond .eq 12, 3) := by decide +kernel
theorem dX9_harmOf_20 : decode cX9_harmOf 20 = .ok (.iload_n 2, 1) := by decide +kernel
theorem dX9_harmOf_21 : decode cX9_harmOf 21 = .ok (.aload_n 0, 1) := by decide +kernel
theorem dX9_harmOf_22 : decode cX9_harmOf 22 = .ok (.getfield 25, 3) := by decide +kernel
theorem dX9_harmOf_25 : decode cX9_harmOf 25 = .ok (.iload_n 3, 1) := by decide +kernel
theorem dX9_harmOf_26 : decode cX9_harmOf 26 = .ok (.iaload, 1) := by decide +kernel
theorem dX9_harmOf_27 : decode cX9_harmOf 27 = .ok (.iadd, 1) := by decide +kernel
theorem dX9_harmOf_28 : decode cX9_harmOf 28 = .ok (.istore_n 2, 1) := by decide +kernel
theorem dX9_harmOf_29 : decode cX9_harmOf 29 = .ok (.iinc 3 1, 3) := by decide +kernel
theorem dX9_harmOf_32 : decode cX9_harmOf 32 = .ok (.goto (-28), 3) := by decide +kernel
theorem dX9_harmOf_35 : decode cX9_harmOf 35 = .ok (.iload_n 2, 1) := by decide +kernel
theorem dX9_harmOf_36 : decode cX9_harmOf 36 = .ok (.ireturn, 1) := by decide +kernel
theorem dX9_remember_0 : decode cX9_remember 0 = .ok (.aload_n 0, 1) := by decide +kernel
theorem dX9_remember_1 : decode cX9_remember 1 = .ok (.getfield 58, 3) := by decide +kernel
theorem dX9_remember_4 : decode cX9_remember 4 = .ok (.bipush 10, 2) := by decide +kernel
theorem dX9_remember_6 : decode cX9_remember 6 = .ok (.if_icmp .lt 24, 3) := by decide +kernel
theorem dX9_remember_9 : decode cX9_remember 9 = .ok (.aload_n 0, 1) := by decide +kernel
theorem dX9_remember_10 : decode cX9_remember 10 = .ok (.getfield 61, 3) := by decide +kernel
theorem dX9_remember_13 : decode cX9_remember 13 = .ok (.iconst 1, 1) := by decide +kernel
theorem dX9_remember_14 : decode cX9_remember 14 = .ok (.aload_n 0, 1) := by decide +kernel
theorem dX9_remember_15 : decode cX9_remember 15 = .ok (.getfield 61, 3) := by decide +kernel
theorem dX9_remember_18 : decode cX9_remember 18 = .ok (.iconst 0, 1) := by decide +kernel
theorem dX9_remember_19 : decode cX9_remember 19 = .ok (.bipush 9, 2) := by decide +kernel
theorem dX9_remember_21 : decode cX9_remember 21 = .ok (.invokestatic 64, 3) := by decide +kernel
theorem dX9_remember_24 : decode cX9_remember 24 = .ok (.aload_n 0, 1) := by decide +kernel
theorem dX9_remember_25 : decode cX9_remember 25 = .ok (.bipush 9, 2) := by decide +kernel
theorem dX9_remember_27 : decode cX9_remember 27 = .ok (.putfield 58, 3) := by decide +kernel
theorem dX9_remember_30 : decode cX9_remember 30 = .ok (.aload_n 0, 1) := by decide +kernel
theorem dX9_remember_31 : decode cX9_remember 31 = .ok (.getfield 61, 3) := by decide +kernel
theorem dX9_remember_34 : decode cX9_remember 34 = .ok (.aload_n 0, 1) := by decide +kernel
theorem dX9_remember_35 : decode cX9_remember 35 = .ok (.getfield 58, 3) := by decide +kernel
theorem dX9_remember_38 : decode cX9_remember 38 = .ok (.aload_n 0, 1) := by decide +kernel
theorem dX9_remember_39 : decode cX9_remember 39 = .ok (.getfield 34, 3) := by decide +kernel
theorem dX9_remember_42 : decode cX9_remember 42 = .ok (.iastore, 1) := by decide +kernel
theorem dX9_remember_43 : decode cX9_remember 43 = .ok (.aload_n 0, 1) := by decide +kernel
theorem dX9_remember_44 : decode cX9_remember 44 = .ok (.dup, 1) := by decide +kernel
theorem dX9_remember_45 : decode cX9_remember 45 = .ok (.getfield 58, 3) := by decide +kernel
theorem dX9_remember_48 : decode cX9_remember 48 = .ok (.iconst 1, 1) := by decide +kernel
theorem dX9_remember_49 : decode cX9_remember 49 = .ok (.iadd, 1) := by decide +kernel
theorem dX9_remember_50 : decode cX9_remember 50 = .ok (.putfield 58, 3) := by decide +kernel
theorem dX9_remember_53 : decode cX9_remember 53 = .ok (.return_, 1) := by decide +kernel
theorem dX9_goBack_0 : decode cX9_goBack 0 = .ok (.aload_n 0, 1) := by decide +kernel
theorem dX9_goBack_1 : decode cX9_goBack 1 = .ok (.getfield 58, 3) := by decide +kernel
theorem dX9_goBack_4 : decode cX9_goBack 4 = .ok (.ifCond .gt 4, 3) := by decide +kernel
theorem dX9_goBack_7 : decode cX9_goBack 7 = .ok (.return_, 1) := by decide +kernel
theorem dX9_goBack_8 : decode cX9_goBack 8 = .ok (.aload_n 0, 1) := by decide +kernel
theorem dX9_goBack_9 : decode cX9_goBack 9 = .ok (.dup, 1) := by decide +kernel
theorem dX9_goBack_10 : decode cX9_goBack 10 = .ok (.getfield 58, 3) := by decide +kernel
theorem dX9_goBack_13 : decode cX9_goBack 13 = .ok (.iconst 1, 1) := by decide +kernel
theorem dX9_goBack_14 : decode cX9_goBack 14 = .ok (.isub, 1) := by decide +kernel
theorem dX9_goBack_15 : decode cX9_goBack 15 = .ok (.putfield 58, 3) := by decide +kernel
theorem dX9_goBack_18 : decode cX9_goBack 18 = .ok (.aload_n 0, 1) := by decide +kernel
theorem dX9_goBack_19 : decode cX9_goBack 19 = .ok (.aload_n 0, 1) := by decide +kernel
theorem dX9_goBack_20 : decode cX9_goBack 20 = .ok (.getfield 61, 3) := by decide +kernel
theorem dX9_goBack_23 : decode cX9_goBack 23 = .ok (.aload_n 0, 1) := by decide +kernel
theorem dX9_goBack_24 : decode cX9_goBack 24 = .ok (.getfield 58, 3) := by decide +kernel
theorem dX9_goBack_27 : decode cX9_goBack 27 = .ok (.iaload, 1) := by decide +kernel
theorem dX9_goBack_28 : decode cX9_goBack 28 = .ok (.putfield 34, 3) := by decide +kernel
theorem dX9_goBack_31 : decode cX9_goBack 31 = .ok (.return_, 1) := by decide +kernel
theorem dX9_mixInto_0 : decode cX9_mixInto 0 = .ok (.ldc2_w 84, 3) := by decide +kernel
theorem dX9_mixInto_3 : decode cX9_mixInto 3 = .ok (.lload_n 1, 1) := by decide +kernel
theorem dX9_mixInto_4 : decode cX9_mixInto 4 = .ok (.lmul, 1) := by decide +kernel
theorem dX9_mixInto_5 : decode cX9_mixInto 5 = .ok (.aload_n 0, 1) := by decide +kernel
theorem dX9_mixInto_6 : decode cX9_mixInto 6 = .ok (.getfield 34, 3) := by decide +kernel
theorem dX9_mixInto_9 : decode cX9_mixInto 9 = .ok (.i2l, 1) := by decide +kernel
theorem dX9_mixInto_10 : decode cX9_mixInto 10 = .ok (.ladd, 1) := by decide +kernel
theorem dX9_mixInto_11 : decode cX9_mixInto 11 = .ok (.lstore_n 3, 1) := by decide +kernel
theorem dX9_mixInto_12 : decode cX9_mixInto 12 = .ok (.iconst 0, 1) := by decide +kernel
theorem dX9_mixInto_13 : decode cX9_mixInto 13 = .ok (.istore 5, 2) := by decide +kernel
theorem dX9_mixInto_15 : decode cX9_mixInto 15 = .ok (.iload 5, 2) := by decide +kernel
theorem dX9_mixInto_17 : decode cX9_mixInto 17 = .ok (.aload_n 0, 1) := by decide +kernel
theorem dX9_mixInto_18 : decode cX9_mixInto 18 = .ok (.getfield 9, 3) := by decide +kernel
theorem dX9_mixInto_21 : decode cX9_mixInto 21 = .ok (.if_icmp .ge 86, 3) := by decide +kernel
theorem dX9_mixInto_24 : decode cX9_mixInto 24 = .ok (.ldc2_w 84, 3) := by decide +kernel
theorem dX9_mixInto_27 : decode cX9_mixInto 27 = .ok (.lload_n 3, 1) := by decide +kernel
theorem dX9_mixInto_28 : decode cX9_mixInto 28 = .ok (.lmul, 1) := by decide +kernel
theorem dX9_mixInto_29 : decode cX9_mixInto 29 = .ok (.aload_n 0, 1) := by decide +kernel
theorem dX9_mixInto_30 : decode cX9_mixInto 30 = .ok (.getfield 15, 3) := by decide +kernel
theorem dX9_mixInto_33 : decode cX9_mixInto 33 = .ok (.iload 5, 2) := by decide +kernel
theorem dX9_mixInto_35 : decode cX9_mixInto 35 = .ok (.iaload, 1) := by decide +kernel
theorem dX9_mixInto_36 : decode cX9_mixInto 36 = .ok (.i2l, 1) := by decide +kernel
theorem dX9_mixInto_37 : decode cX9_mixInto 37 = .ok (.ladd, 1) := by decide +kernel
theorem dX9_mixInto_38 : decode cX9_mixInto 38 = .ok (.lstore_n 3, 1) := by decide +kernel
theorem dX9_mixInto_39 : decode cX9_mixInto 39 = .ok (.ldc2_w 84, 3) := by decide +kernel
theorem dX9_mixInto_42 : decode cX9_mixInto 42 = .ok (.lload_n 3, 1) := by decide +kernel
theorem dX9_mixInto_43 : decode cX9_mixInto 43 = .ok (.lmul, 1) := by decide +kernel
theorem dX9_mixInto_44 : decode cX9_mixInto 44 = .ok (.aload_n 0, 1) := by decide +kernel
theorem dX9_mixInto_45 : decode cX9_mixInto 45 = .ok (.getfield 19, 3) := by decide +kernel
theorem dX9_mixInto_48 : decode cX9_mixInto 48 = .ok (.iload 5, 2) := by decide +kernel
theorem dX9_mixInto_50 : decode cX9_mixInto 50 = .ok (.iaload, 1) := by decide +kernel
theorem dX9_mixInto_51 : decode cX9_mixInto 51 = .ok (.i2l, 1) := by decide +kernel
theorem dX9_mixInto_52 : decode cX9_mixInto 52 = .ok (.ladd, 1) := by decide +kernel
theorem dX9_mixInto_53 : decode cX9_mixInto 53 = .ok (.lstore_n 3, 1) := by decide +kernel
theorem dX9_mixInto_54 : decode cX9_mixInto 54 = .ok (.ldc2_w 84, 3) := by decide +kernel
theorem dX9_mixInto_57 : decode cX9_mixInto 57 = .ok (.lload_n 3, 1) := by decide +kernel
theorem dX9_mixInto_58 : decode cX9_mixInto 58 = .ok (.lmul, 1) := by decide +kernel
theorem dX9_mixInto_59 : decode cX9_mixInto 59 = .ok (.aload_n 0, 1) := by decide +kernel
theorem dX9_mixInto_60 : decode cX9_mixInto 60 = .ok (.getfield 22, 3) := by decide +kernel
theorem dX9_mixInto_63 : decode cX9_mixInto 63 = .ok (.iload 5, 2) := by decide +kernel
theorem dX9_mixInto_65 : decode cX9_mixInto 65 = .ok (.iaload, 1) := by decide +kernel
theorem dX9_mixInto_66 : decode cX9_mixInto 66 = .ok (.i2l, 1) := by decide +kernel
theorem dX9_mixInto_67 : decode cX9_mixInto 67 = .ok (.ladd, 1) := by decide +kernel
theorem dX9_mixInto_68 : decode cX9_mixInto 68 = .ok (.lstore_n 3, 1) := by decide +kernel
theorem dX9_mixInto_69 : decode cX9_mixInto 69 = .ok (.ldc2_w 84, 3) := by decide +kernel
theorem dX9_mixInto_72 : decode cX9_mixInto 72 = .ok (.lload_n 3, 1) := by decide +kernel
theorem dX9_mixInto_73 : decode cX9_mixInto 73 = .ok (.lmul, 1) := by decide +kernel
theorem dX9_mixInto_74 : decode cX9_mixInto 74 = .ok (.aload_n 0, 1) := by decide +kernel
theorem dX9_mixInto_75 : decode cX9_mixInto 75 = .ok (.getfield 25, 3) := by decide +kernel
theorem dX9_mixInto_78 : decode cX9_mixInto 78 = .ok (.iload 5, 2) := by decide +kernel
theorem dX9_mixInto_80 : decode cX9_mixInto 80 = .ok (.iaload, 1) := by decide +kernel
theorem dX9_mixInto_81 : decode cX9_mixInto 81 = .ok (.i2l, 1) := by decide +kernel
theorem dX9_mixInto_82 : decode cX9_mixInto 82 = .ok (.ladd, 1) := by decide +kernel
theorem dX9_mixInto_83 : decode cX9_mixInto 83 = .ok (.lstore_n 3, 1) := by decide +kernel
theorem dX9_mixInto_84 : decode cX9_mixInto 84 = .ok (.ldc2_w 84, 3) := by decide +kernel
theorem dX9_mixInto_87 : decode cX9_mixInto 87 = .ok (.lload_n 3, 1) := by decide +kernel
theorem dX9_mixInto_88 : decode cX9_mixInto 88 = .ok (.lmul, 1) := by decide +kernel
theorem dX9_mixInto_89 : decode cX9_mixInto 89 = .ok (.aload_n 0, 1) := by decide +kernel
theorem dX9_mixInto_90 : decode cX9_mixInto 90 = .ok (.getfield 28, 3) := by decide +kernel
theorem dX9_mixInto_93 : decode cX9_mixInto 93 = .ok (.iload 5, 2) := by decide +kernel
theorem dX9_mixInto_95 : decode cX9_mixInto 95 = .ok (.ishr, 1) := by decide +kernel
theorem dX9_mixInto_96 : decode cX9_mixInto 96 = .ok (.iconst 1, 1) := by decide +kernel
theorem dX9_mixInto_97 : decode cX9_mixInto 97 = .ok (.iand, 1) := by decide +kernel
theorem dX9_mixInto_98 : decode cX9_mixInto 98 = .ok (.i2l, 1) := by decide +kernel
theorem dX9_mixInto_99 : decode cX9_mixInto 99 = .ok (.ladd, 1) := by decide +kernel
theorem dX9_mixInto_100 : decode cX9_mixInto 100 = .ok (.lstore_n 3, 1) := by decide +kernel
theorem dX9_mixInto_101 : decode cX9_mixInto 101 = .ok (.iinc 5 1, 3) := by decide +kernel
theorem dX9_mixInto_104 : decode cX9_mixInto 104 = .ok (.goto (-89), 3) := by decide +kernel
theorem dX9_mixInto_107 : decode cX9_mixInto 107 = .ok (.iconst 0, 1) := by decide +kernel
theorem dX9_mixInto_108 : decode cX9_mixInto 108 = .ok (.istore 5, 2) := by decide +kernel
theorem dX9_mixInto_110 : decode cX9_mixInto 110 = .ok (.iload 5, 2) := by decide +kernel
theorem dX9_mixInto_112 : decode cX9_mixInto 112 = .ok (.aload_n 0, 1) := by decide +kernel
theorem dX9_mixInto_113 : decode cX9_mixInto 113 = .ok (.getfield 37, 3) := by decide +kernel
theorem dX9_mixInto_116 : decode cX9_mixInto 116 = .ok (.if_icmp .ge 39, 3) := by decide +kernel
theorem dX9_mixInto_119 : decode cX9_mixInto 119 = .ok (.ldc2_w 84, 3) := by decide +kernel
theorem dX9_mixInto_122 : decode cX9_mixInto 122 = .ok (.lload_n 3, 1) := by decide +kernel
theorem dX9_mixInto_123 : decode cX9_mixInto 123 = .ok (.lmul, 1) := by decide +kernel
theorem dX9_mixInto_124 : decode cX9_mixInto 124 = .ok (.aload_n 0, 1) := by decide +kernel
theorem dX9_mixInto_125 : decode cX9_mixInto 125 = .ok (.getfield 40, 3) := by decide +kernel
theorem dX9_mixInto_128 : decode cX9_mixInto 128 = .ok (.iload 5, 2) := by decide +kernel
theorem dX9_mixInto_130 : decode cX9_mixInto 130 = .ok (.iaload, 1) := by decide +kernel
theorem dX9_mixInto_131 : decode cX9_mixInto 131 = .ok (.i2l, 1) := by decide +kernel
theorem dX9_mixInto_132 : decode cX9_mixInto 132 = .ok (.ladd, 1) := by decide +kernel
theorem dX9_mixInto_133 : decode cX9_mixInto 133 = .ok (.lstore_n 3, 1) := by decide +kernel
theorem dX9_mixInto_134 : decode cX9_mixInto 134 = .ok (.ldc2_w 84, 3) := by decide +kernel
theorem dX9_mixInto_137 : decode cX9_mixInto 137 = .ok (.lload_n 3, 1) := by decide +kernel
theorem dX9_mixInto_138 : decode cX9_mixInto 138 = .ok (.lmul, 1) := by decide +kernel
theorem dX9_mixInto_139 : decode cX9_mixInto 139 = .ok (.aload_n 0, 1) := by decide +kernel
theorem dX9_mixInto_140 : decode cX9_mixInto 140 = .ok (.getfield 43, 3) := by decide +kernel
theorem dX9_mixInto_143 : decode cX9_mixInto 143 = .ok (.iload 5, 2) := by decide +kernel
theorem dX9_mixInto_145 : decode cX9_mixInto 145 = .ok (.iaload, 1) := by decide +kernel
theorem dX9_mixInto_146 : decode cX9_mixInto 146 = .ok (.i2l, 1) := by decide +kernel
theorem dX9_mixInto_147 : decode cX9_mixInto 147 = .ok (.ladd, 1) := by decide +kernel
theorem dX9_mixInto_148 : decode cX9_mixInto 148 = .ok (.lstore_n 3, 1) := by decide +kernel
theorem dX9_mixInto_149 : decode cX9_mixInto 149 = .ok (.iinc 5 1, 3) := by decide +kernel
theorem dX9_mixInto_152 : decode cX9_mixInto 152 = .ok (.goto (-42), 3) := by decide +kernel
theorem dX9_mixInto_155 : decode cX9_mixInto 155 = .ok (.iconst 0, 1) := by decide +kernel
theorem dX9_mixInto_156 : decode cX9_mixInto 156 = .ok (.istore 5, 2) := by decide +kernel
theorem dX9_mixInto_158 : decode cX9_mixInto 158 = .ok (.iload 5, 2) := by decide +kernel
theorem dX9_mixInto_160 : decode cX9_mixInto 160 = .ok (.aload_n 0, 1) := by decide +kernel
theorem dX9_mixInto_161 : decode cX9_mixInto 161 = .ok (.getfield 46, 3) := by decide +kernel
theorem dX9_mixInto_164 : decode cX9_mixInto 164 = .ok (.if_icmp .ge 54, 3) := by decide +kernel
theorem dX9_mixInto_167 : decode cX9_mixInto 167 = .ok (.ldc2_w 84, 3) := by decide +kernel
theorem dX9_mixInto_170 : decode cX9_mixInto 170 = .ok (.lload_n 3, 1) := by decide +kernel
theorem dX9_mixInto_171 : decode cX9_mixInto 171 = .ok (.lmul, 1) := by decide +kernel
theorem dX9_mixInto_172 : decode cX9_mixInto 172 = .ok (.aload_n 0, 1) := by decide +kernel
theorem dX9_mixInto_173 : decode cX9_mixInto 173 = .ok (.getfield 49, 3) := by decide +kernel
theorem dX9_mixInto_176 : decode cX9_mixInto 176 = .ok (.iload 5, 2) := by decide +kernel
theorem dX9_mixInto_178 : decode cX9_mixInto 178 = .ok (.iaload, 1) := by decide +kernel
theorem dX9_mixInto_179 : decode cX9_mixInto 179 = .ok (.i2l, 1) := by decide +kernel
theorem dX9_mixInto_180 : decode cX9_mixInto 180 = .ok (.ladd, 1) := by decide +kernel
theorem dX9_mixInto_181 : decode cX9_mixInto 181 = .ok (.lstore_n 3, 1) := by decide +kernel
theorem dX9_mixInto_182 : decode cX9_mixInto 182 = .ok (.ldc2_w 84, 3) := by decide +kernel
theorem dX9_mixInto_185 : decode cX9_mixInto 185 = .ok (.lload_n 3, 1) := by decide +kernel
theorem dX9_mixInto_186 : decode cX9_mixInto 186 = .ok (.lmul, 1) := by decide +kernel
theorem dX9_mixInto_187 : decode cX9_mixInto 187 = .ok (.aload_n 0, 1) := by decide +kernel
theorem dX9_mixInto_188 : decode cX9_mixInto 188 = .ok (.getfield 52, 3) := by decide +kernel
theorem dX9_mixInto_191 : decode cX9_mixInto 191 = .ok (.iload 5, 2) := by decide +kernel
theorem dX9_mixInto_193 : decode cX9_mixInto 193 = .ok (.iaload, 1) := by decide +kernel
theorem dX9_mixInto_194 : decode cX9_mixInto 194 = .ok (.i2l, 1) := by decide +kernel
theorem dX9_mixInto_195 : decode cX9_mixInto 195 = .ok (.ladd, 1) := by decide +kernel
theorem dX9_mixInto_196 : decode cX9_mixInto 196 = .ok (.lstore_n 3, 1) := by decide +kernel
theorem dX9_mixInto_197 : decode cX9_mixInto 197 = .ok (.ldc2_w 84, 3) := by decide +kernel
theorem dX9_mixInto_200 : decode cX9_mixInto 200 = .ok (.lload_n 3, 1) := by decide +kernel
theorem dX9_mixInto_201 : decode cX9_mixInto 201 = .ok (.lmul, 1) := by decide +kernel
theorem dX9_mixInto_202 : decode cX9_mixInto 202 = .ok (.aload_n 0, 1) := by decide +kernel
theorem dX9_mixInto_203 : decode cX9_mixInto 203 = .ok (.getfield 55, 3) := by decide +kernel
theorem dX9_mixInto_206 : decode cX9_mixInto 206 = .ok (.iload 5, 2) := by decide +kernel
theorem dX9_mixInto_208 : decode cX9_mixInto 208 = .ok (.iaload, 1) := by decide +kernel
theorem dX9_mixInto_209 : decode cX9_mixInto 209 = .ok (.i2l, 1) := by decide +kernel
theorem dX9_mixInto_210 : decode cX9_mixInto 210 = .ok (.ladd, 1) := by decide +kernel
theorem dX9_mixInto_211 : decode cX9_mixInto 211 = .ok (.lstore_n 3, 1) := by decide +kernel
theorem dX9_mixInto_212 : decode cX9_mixInto 212 = .ok (.iinc 5 1, 3) := by decide +kernel
theorem dX9_mixInto_215 : decode cX9_mixInto 215 = .ok (.goto (-57), 3) := by decide +kernel
theorem dX9_mixInto_218 : decode cX9_mixInto 218 = .ok (.lload_n 3, 1) := by decide +kernel
theorem dX9_mixInto_219 : decode cX9_mixInto 219 = .ok (.lreturn, 1) := by decide +kernel
theorem dX10_init_0 : decode cX10_init 0 = .ok (.aload_n 0, 1) := by decide +kernel
theorem dX10_init_1 : decode cX10_init 1 = .ok (.invokespecial 1, 3) := by decide +kernel
theorem dX10_init_4 : decode cX10_init 4 = .ok (.return_, 1) := by decide +kernel
theorem dX10_becomes_0 : decode cX10_becomes 0 = .ok (.iload_n 1, 1) := by decide +kernel
theorem dX10_becomes_1 : decode cX10_becomes 1 = .ok (.aload_n 0, 1) := by decide +kernel
theorem dX10_becomes_2 : decode cX10_becomes 2 = .ok (.iconst 0, 1) := by decide +kernel
theorem dX10_becomes_3 : decode cX10_becomes 3 = .ok (.iload_n 2, 1) := by decide +kernel
theorem dX10_becomes_4 : decode cX10_becomes 4 = .ok (.iload_n 3, 1) := by decide +kernel
theorem dX10_becomes_5 : decode cX10_becomes 5 = .ok (.invokespecial 7, 3) := by decide +kernel
theorem dX10_becomes_8 : decode cX10_becomes 8 = .ok (.if_icmp .eq 7, 3) := by decide +kernel
theorem dX10_becomes_11 : decode cX10_becomes 11 = .ok (.iconst 1, 1) := by decide +kernel
theorem dX10_becomes_12 : decode cX10_becomes 12 = .ok (.goto 4, 3) := by decide +kernel
theorem dX10_becomes_15 : decode cX10_becomes 15 = .ok (.iconst 0, 1) := by decide +kernel
theorem dX10_becomes_16 : decode cX10_becomes 16 = .ok (.ireturn, 1) := by decide +kernel
theorem dX11_init_0 : decode cX11_init 0 = .ok (.aload_n 0, 1) := by decide +kernel
theorem dX11_init_1 : decode cX11_init 1 = .ok (.invokespecial 3, 3) := by decide +kernel
theorem dX11_init_4 : decode cX11_init 4 = .ok (.aload_n 0, 1) := by decide +kernel
theorem dX11_init_5 : decode cX11_init 5 = .ok (.new 9, 3) := by decide +kernel
theorem dX11_init_8 : decode cX11_init 8 = .ok (.dup, 1) := by decide +kernel
theorem dX11_init_9 : decode cX11_init 9 = .ok (.invokespecial 11, 3) := by decide +kernel
theorem dX11_init_12 : decode cX11_init 12 = .ok (.putfield 12, 3) := by decide +kernel
theorem dX11_init_15 : decode cX11_init 15 = .ok (.aload_n 0, 1) := by decide +kernel
theorem dX11_init_16 : decode cX11_init 16 = .ok (.iconst 2, 1) := by decide +kernel
theorem dX11_init_17 : decode cX11_init 17 = .ok (.anewarray 9, 3) := by decide +kernel
theorem dX11_init_20 : decode cX11_init 20 = .ok (.putfield 16, 3) := by decide +kernel
theorem dX11_init_23 : decode cX11_init 23 = .ok (.aload_n 0, 1) := by decide +kernel
theorem dX11_init_24 : decode cX11_init 24 = .ok (.sipush 200, 3) := by decide +kernel
theorem dX11_init_27 : decode cX11_init 27 = .ok (.newarray .int, 2) := by decide +kernel
theorem dX11_init_29 : decode cX11_init 29 = .ok (.putfield 20, 3) := by decide +kernel
theorem dX11_init_32 : decode cX11_init 32 = .ok (.aload_n 0, 1) := by decide +kernel
theorem dX11_init_33 : decode cX11_init 33 = .ok (.iconst 0, 1) := by decide +kernel
theorem dX11_init_34 : decode cX11_init 34 = .ok (.putfield 24, 3) := by decide +kernel
theorem dX11_init_37 : decode cX11_init 37 = .ok (.aload_n 0, 1) := by decide +kernel
theorem dX11_init_38 : decode cX11_init 38 = .ok (.lconst 0, 1) := by decide +kernel
theorem dX11_init_39 : decode cX11_init 39 = .ok (.putfield 28, 3) := by decide +kernel
theorem dX11_init_42 : decode cX11_init 42 = .ok (.aload_n 0, 1) := by decide +kernel
theorem dX11_init_43 : decode cX11_init 43 = .ok (.lconst 1, 1) := by decide +kernel
theorem dX11_init_44 : decode cX11_init 44 = .ok (.putfield 32, 3) := by decide +kernel
theorem dX11_init_47 : decode cX11_init 47 = .ok (.aload_n 0, 1) := by decide +kernel
theorem dX11_init_48 : decode cX11_init 48 = .ok (.iconst 0, 1) := by decide +kernel
theorem dX11_init_49 : decode cX11_init 49 = .ok (.putfield 35, 3) := by decide +kernel
theorem dX11_init_52 : decode cX11_init 52 = .ok (.aload_n 0, 1) := by decide +kernel
theorem dX11_init_53 : decode cX11_init 53 = .ok (.iconst 0, 1) := by decide +kernel
theorem dX11_init_54 : decode cX11_init 54 = .ok (.putfield 38, 3) := by decide +kernel
theorem dX11_init_57 : decode cX11_init 57 = .ok (.aload_n 0, 1) := by decide +kernel
theorem dX11_init_58 : decode cX11_init 58 = .ok (.iconst 0, 1) := by decide +kernel
theorem dX11_init_59 : decode cX11_init 59 = .ok (.putfield 41, 3) := by decide +kernel
theorem dX11_init_62 : decode cX11_init 62 = .ok (.new 44, 3) := by decide +kernel
theorem dX11_init_65 : decode cX11_init 65 = .ok (.dup, 1) := by decide +kernel
theorem dX11_init_66 : decode cX11_init 66 = .ok (.invokespecial 46, 3) := by decide +kernel
theorem dX11_init_69 : decode cX11_init 69 = .ok (.astore_n 1, 1) := by decide +kernel
theorem dX11_init_70 : decode cX11_init 70 = .ok (.aload_n 0, 1) := by decide +kernel
theorem dX11_init_71 : decode cX11_init 71 = .ok (.new 47, 3) := by decide +kernel
theorem dX11_init_74 : decode cX11_init 74 = .ok (.dup, 1) := by decide +kernel
theorem dX11_init_75 : decode cX11_init 75 = .ok (.aload_n 1, 1) := by decide +kernel
theorem dX11_init_76 : decode cX11_init 76 = .ok (.invokespecial 49, 3) := by decide +kernel
theorem dX11_init_79 : decode cX11_init 79 = .ok (.putfield 52, 3) := by decide +kernel
theorem dX11_init_82 : decode cX11_init 82 = .ok (.aload_n 0, 1) := by decide +kernel
theorem dX11_init_83 : decode cX11_init 83 = .ok (.new 56, 3) := by decide +kernel
theorem dX11_init_86 : decode cX11_init 86 = .ok (.dup, 1) := by decide +kernel
theorem dX11_init_87 : decode cX11_init 87 = .ok (.new 47, 3) := by decide +kernel
theorem dX11_init_90 : decode cX11_init 90 = .ok (.dup, 1) := by decide +kernel
theorem dX11_init_91 : decode cX11_init 91 = .ok (.aload_n 1, 1) := by decide +kernel
theorem dX11_init_92 : decode cX11_init 92 = .ok (.invokespecial 49, 3) := by decide +kernel
theorem dX11_init_95 : decode cX11_init 95 = .ok (.invokespecial 58, 3) := by decide +kernel
theorem dX11_init_98 : decode cX11_init 98 = .ok (.putfield 61, 3) := by decide +kernel
theorem dX11_init_101 : decode cX11_init 101 = .ok (.aload_n 0, 1) := by decide +kernel
theorem dX11_init_102 : decode cX11_init 102 = .ok (.new 65, 3) := by decide +kernel
theorem dX11_init_105 : decode cX11_init 105 = .ok (.dup, 1) := by decide +kernel
theorem dX11_init_106 : decode cX11_init 106 = .ok (.aload_n 1, 1) := by decide +kernel
theorem dX11_init_107 : decode cX11_init 107 = .ok (.invokespecial 67, 3) := by decide +kernel
theorem dX11_init_110 : decode cX11_init 110 = .ok (.putfield 68, 3) := by decide +kernel
theorem dX11_init_113 : decode cX11_init 113 = .ok (.aload_n 0, 1) := by decide +kernel
theorem dX11_init_114 : decode cX11_init 114 = .ok (.new 72, 3) := by decide +kernel
theorem dX11_init_117 : decode cX11_init 117 = .ok (.dup, 1) := by decide +kernel
theorem dX11_init_118 : decode cX11_init 118 = .ok (.invokespecial 74, 3) := by decide +kernel
theorem dX11_init_121 : decode cX11_init 121 = .ok (.putfield 75, 3) := by decide +kernel
theorem dX11_init_124 : decode cX11_init 124 = .ok (.return_, 1) := by decide +kernel
theorem dX11_thing_0 : decode cX11_thing 0 = .ok (.iload_n 1, 1) := by decide +kernel
theorem dX11_thing_1 : decode cX11_thing 1 = .ok (.iconst 0, 1) := by decide +kernel
theorem dX11_thing_2 : decode cX11_thing 2 = .ok (.iconst 4, 1) := by decide +kernel
theorem dX11_thing_3 : decode cX11_thing 3 = .ok (.invokestatic 79, 3) := by decide +kernel
theorem dX11_thing_6 : decode cX11_thing 6 = .ok (.ifCond .eq 38, 3) := by decide +kernel
theorem dX11_thing_9 : decode cX11_thing 9 = .ok (.iload_n 2, 1) := by decide +kernel
theorem dX11_thing_10 : decode cX11_thing 10 = .ok (.iconst 0, 1) := by decide +kernel
theorem dX11_thing_11 : decode cX11_thing 11 = .ok (.bipush 9, 2) := by decide +kernel
theorem dX11_thing_13 : decode cX11_thing 13 = .ok (.invokestatic 79, 3) := by decide +kernel
theorem dX11_thing_16 : decode cX11_thing 16 = .ok (.ifCond .eq 28, 3) := by decide +kernel
theorem dX11_thing_19 : decode cX11_thing 19 = .ok (.iload_n 3, 1) := by decide +kernel
theorem dX11_thing_20 : decode cX11_thing 20 = .ok (.iconst 1, 1) := by decide +kernel
theorem dX11_thing_21 : decode cX11_thing 21 = .ok (.bipush 9, 2) := by decide +kernel
theorem dX11_thing_23 : decode cX11_thing 23 = .ok (.invokestatic 79, 3) := by decide +kernel
theorem dX11_thing_26 : decode cX11_thing 26 = .ok (.ifCond .eq 18, 3) := by decide +kernel
theorem dX11_thing_29 : decode cX11_thing 29 = .ok (.iload 4, 2) := by decide +kernel
theorem dX11_thing_31 : decode cX11_thing 31 = .ok (.iconst 0, 1) := by decide +kernel
theorem dX11_thing_32 : decode cX11_thing 32 = .ok (.bipush 9, 2) := by decide +kernel
theorem dX11_thing_34 : decode cX11_thing 34 = .ok (.invokestatic 79, 3) := by decide +kernel
theorem dX11_thing_37 : decode cX11_thing 37 = .ok (.ifCond .eq 7, 3) := by decide +kernel
theorem dX11_thing_40 : decode cX11_thing 40 = .ok (.iconst 1, 1) := by decide +kernel
theorem dX11_thing_41 : decode cX11_thing 41 = .ok (.goto 4, 3) := by decide +kernel
theorem dX11_thing_44 : decode cX11_thing 44 = .ok (.iconst 0, 1) := by decide +kernel
theorem dX11_thing_45 : decode cX11_thing 45 = .ok (.istore 5, 2) := by decide +kernel
theorem dX11_thing_47 : decode cX11_thing 47 = .ok (.iload 5, 2) := by decide +kernel
theorem dX11_thing_49 : decode cX11_thing 49 = .ok (.ifCond .ne 10, 3) := by decide +kernel
theorem dX11_thing_52 : decode cX11_thing 52 = .ok (.aload_n 0, 1) := by decide +kernel
theorem dX11_thing_53 : decode cX11_thing 53 = .ok (.bipush (-2), 2) := by decide +kernel
theorem dX11_thing_55 : decode cX11_thing 55 = .ok (.invokevirtual 83, 3) := by decide +kernel
theorem dX11_thing_58 : decode cX11_thing 58 = .ok (.ireturn, 1) := by decide +kernel
theorem dX11_thing_59 : decode cX11_thing 59 = .ok (.aload_n 0, 1) := by decide +kernel
theorem dX11_thing_60 : decode cX11_thing 60 = .ok (.getfield 12, 3) := by decide +kernel
theorem dX11_thing_63 : decode cX11_thing 63 = .ok (.getfield 87, 3) := by decide +kernel
theorem dX11_thing_66 : decode cX11_thing 66 = .ok (.iconst 5, 1) := by decide +kernel
theorem dX11_thing_67 : decode cX11_thing 67 = .ok (.if_icmp .lt 8, 3) := by decide +kernel
theorem dX11_thing_70 : decode cX11_thing 70 = .ok (.aload_n 0, 1) := by decide +kernel
theorem dX11_thing_71 : decode cX11_thing 71 = .ok (.invokevirtual 90, 3) := by decide +kernel
theorem dX11_thing_74 : decode cX11_thing 74 = .ok (.ireturn, 1) := by decide +kernel
theorem dX11_thing_75 : decode cX11_thing 75 = .ok (.aload_n 0, 1) := by decide +kernel
theorem dX11_thing_76 : decode cX11_thing 76 = .ok (.getfield 12, 3) := by decide +kernel
theorem dX11_thing_79 : decode cX11_thing 79 = .ok (.iload_n 1, 1) := by decide +kernel
theorem dX11_thing_80 : decode cX11_thing 80 = .ok (.iload_n 2, 1) := by decide +kernel
theorem dX11_thing_81 : decode cX11_thing 81 = .ok (.iload_n 3, 1) := by decide +kernel
theorem dX11_thing_82 : decode cX11_thing 82 = .ok (.iload 4, 2) := by decide +kernel
theorem dX11_thing_84 : decode cX11_thing 84 = .ok (.invokevirtual 94, 3) := by decide +kernel
theorem dX11_thing_87 : decode cX11_thing 87 = .ok (.aload_n 0, 1) := by decide +kernel
theorem dX11_thing_88 : decode cX11_thing 88 = .ok (.getfield 12, 3) := by decide +kernel
theorem dX11_thing_91 : decode cX11_thing 91 = .ok (.getfield 87, 3) := by decide +kernel
theorem dX11_thing_94 : decode cX11_thing 94 = .ok (.iconst 1, 1) := by decide +kernel
theorem dX11_thing_95 : decode cX11_thing 95 = .ok (.isub, 1) := by decide +kernel
theorem dX11_thing_96 : decode cX11_thing 96 = .ok (.ireturn, 1) := by decide +kernel
theorem dX11_rope_0 : decode cX11_rope 0 = .ok (.aload_n 0, 1) := by decide +kernel
theorem dX11_rope_1 : decode cX11_rope 1 = .ok (.getfield 12, 3) := by decide +kernel
theorem dX11_rope_4 : decode cX11_rope 4 = .ok (.iload_n 1, 1) := by decide +kernel
theorem dX11_rope_5 : decode cX11_rope 5 = .ok (.invokevirtual 98, 3) := by decide +kernel
theorem dX11_rope_8 : decode cX11_rope 8 = .ok (.ifCond .ne 10, 3) := by decide +kernel
theorem dX11_rope_11 : decode cX11_rope 11 = .ok (.aload_n 0, 1) := by decide +kernel
theorem dX11_rope_12 : decode cX11_rope 12 = .ok (.bipush (-2), 2) := by decide +kernel
theorem dX11_rope_14 : decode cX11_rope 14 = .ok (.invokevirtual 83, 3) := by decide +kernel
theorem dX11_rope_17 : decode cX11_rope 17 = .ok (.ireturn, 1) := by decide +kernel
theorem dX11_rope_18 : decode cX11_rope 18 = .ok (.aload_n 0, 1) := by decide +kernel
theorem dX11_rope_19 : decode cX11_rope 19 = .ok (.getfield 12, 3) := by decide +kernel
theorem dX11_rope_22 : decode cX11_rope 22 = .ok (.getfield 102, 3) := by decide +kernel
theorem dX11_rope_25 : decode cX11_rope 25 = .ok (.iload_n 1, 1) := by decide +kernel
theorem dX11_rope_26 : decode cX11_rope 26 = .ok (.invokestatic 105, 3) := by decide +kernel
theorem dX11_rope_29 : decode cX11_rope 29 = .ok (.iload_n 2, 1) := by decide +kernel
theorem dX11_rope_30 : decode cX11_rope 30 = .ok (.if_icmp .ne 8, 3) := by decide +kernel
theorem dX11_rope_33 : decode cX11_rope 33 = .ok (.aload_n 0, 1) := by decide +kernel
theorem dX11_rope_34 : decode cX11_rope 34 = .ok (.invokevirtual 109, 3) := by decide +kernel
theorem dX11_rope_37 : decode cX11_rope 37 = .ok (.ireturn, 1) := by decide +kernel
theorem dX11_rope_38 : decode cX11_rope 38 = .ok (.aload_n 0, 1) := by decide +kernel
theorem dX11_rope_39 : decode cX11_rope 39 = .ok (.getfield 12, 3) := by decide +kernel
theorem dX11_rope_42 : decode cX11_rope 42 = .ok (.dup, 1) := by decide +kernel
theorem dX11_rope_43 : decode cX11_rope 43 = .ok (.getfield 102, 3) := by decide +kernel
theorem dX11_rope_46 : decode cX11_rope 46 = .ok (.iconst 1, 1) := by decide +kernel
theorem dX11_rope_47 : decode cX11_rope 47 = .ok (.iload_n 1, 1) := by decide +kernel
theorem dX11_rope_48 : decode cX11_rope 48 = .ok (.ishl, 1) := by decide +kernel
theorem dX11_rope_49 : decode cX11_rope 49 = .ok (.ixor, 1) := by decide +kernel
theorem dX11_rope_50 : decode cX11_rope 50 = .ok (.putfield 102, 3) := by decide +kernel
theorem dX11_rope_53 : decode cX11_rope 53 = .ok (.iconst 1, 1) := by decide +kernel
theorem dX11_rope_54 : decode cX11_rope 54 = .ok (.ireturn, 1) := by decide +kernel
theorem dX11_damp_0 : decode cX11_damp 0 = .ok (.iload_n 1, 1) := by decide +kernel
theorem dX11_damp_1 : decode cX11_damp 1 = .ok (.iconst 0, 1) := by decide +kernel
theorem dX11_damp_2 : decode cX11_damp 2 = .ok (.bipush 9, 2) := by decide +kernel
theorem dX11_damp_4 : decode cX11_damp 4 = .ok (.invokestatic 79, 3) := by decide +kernel
theorem dX11_damp_7 : decode cX11_damp 7 = .ok (.ifCond .ne 10, 3) := by decide +kernel
theorem dX11_damp_10 : decode cX11_damp 10 = .ok (.aload_n 0, 1) := by decide +kernel
theorem dX11_damp_11 : decode cX11_damp 11 = .ok (.bipush (-2), 2) := by decide +kernel
theorem dX11_damp_13 : decode cX11_damp 13 = .ok (.invokevirtual 83, 3) := by decide +kernel
theorem dX11_damp_16 : decode cX11_damp 16 = .ok (.ireturn, 1) := by decide +kernel
theorem dX11_damp_17 : decode cX11_damp 17 = .ok (.aload_n 0, 1) := by decide +kernel
theorem dX11_damp_18 : decode cX11_damp 18 = .ok (.getfield 12, 3) := by decide +kernel
theorem dX11_damp_21 : decode cX11_damp 21 = .ok (.getfield 112, 3) := by decide +kernel
theorem dX11_damp_24 : decode cX11_damp 24 = .ok (.istore_n 2, 1) := by decide +kernel
theorem dX11_damp_25 : decode cX11_damp 25 = .ok (.aload_n 0, 1) := by decide +kernel
theorem dX11_damp_26 : decode cX11_damp 26 = .ok (.getfield 12, 3) := by decide +kernel
theorem dX11_damp_29 : decode cX11_damp 29 = .ok (.iload_n 1, 1) := by decide +kernel
theorem dX11_damp_30 : decode cX11_damp 30 = .ok (.putfield 112, 3) := by decide +kernel
theorem dX11_damp_33 : decode cX11_damp 33 = .ok (.iload_n 2, 1) := by decide +kernel
theorem dX11_damp_34 : decode cX11_damp 34 = .ok (.ireturn, 1) := by decide +kernel
theorem dX11_type_0 : decode cX11_type 0 = .ok (.iload_n 3, 1) := by decide +kernel
theorem dX11_type_1 : decode cX11_type 1 = .ok (.iconst 1, 1) := by decide +kernel
theorem dX11_type_2 : decode cX11_type 2 = .ok (.bipush 8, 2) := by decide +kernel
theorem dX11_type_4 : decode cX11_type 4 = .ok (.invokestatic 79, 3) := by decide +kernel
theorem dX11_type_7 : decode cX11_type 7 = .ok (.ifCond .ne 10, 3) := by decide +kernel
theorem dX11_type_10 : decode cX11_type 10 = .ok (.aload_n 0, 1) := by decide +kernel
theorem dX11_type_11 : decode cX11_type 11 = .ok (.bipush (-2), 2) := by decide +kernel
theorem dX11_type_13 : decode cX11_type 13 = .ok (.invokevirtual 83, 3) := by decide +kernel
theorem dX11_type_16 : decode cX11_type 16 = .ok (.ireturn, 1) := by decide +kernel
theorem dX11_type_17 : decode cX11_type 17 = .ok (.aload_n 0, 1) := by decide +kernel
theorem dX11_type_18 : decode cX11_type 18 = .ok (.getfield 24, 3) := by decide +kernel
theorem dX11_type_21 : decode cX11_type 21 = .ok (.iload_n 3, 1) := by decide +kernel
theorem dX11_type_22 : decode cX11_type 22 = .ok (.iadd, 1) := by decide +kernel
theorem dX11_type_23 : decode cX11_type 23 = .ok (.sipush 200, 3) := by decide +kernel
theorem dX11_type_26 : decode cX11_type 26 = .ok (.if_icmp .le 8, 3) := by decide +kernel
theorem dX11_type_29 : decode cX11_type 29 = .ok (.aload_n 0, 1) := by decide +kernel
theorem dX11_type_30 : decode cX11_type 30 = .ok (.invokevirtual 90, 3) := by decide +kernel
theorem dX11_type_33 : decode cX11_type 33 = .ok (.ireturn, 1) := by decide +kernel
theorem dX11_type_34 : decode cX11_type 34 = .ok (.bipush 8, 2) := by decide +kernel
theorem dX11_type_36 : decode cX11_type 36 = .ok (.iload_n 3, 1) := by decide +kernel
theorem dX11_type_37 : decode cX11_type 37 = .ok (.iconst 1, 1) := by decide +kernel
theorem dX11_type_38 : decode cX11_type 38 = .ok (.isub, 1) := by decide +kernel
theorem dX11_type_39 : decode cX11_type 39 = .ok (.imul, 1) := by decide +kernel
theorem dX11_type_40 : decode cX11_type 40 = .ok (.istore 4, 2) := by decide +kernel
theorem dX11_type_42 : decode cX11_type 42 = .ok (.iload 4, 2) := by decide +kernel
theorem dX11_type_44 : decode cX11_type 44 = .ok (.ifCond .lt 37, 3) := by decide +kernel
theorem dX11_type_47 : decode cX11_type 47 = .ok (.aload_n 0, 1) := by decide +kernel
theorem dX11_type_48 : decode cX11_type 48 = .ok (.getfield 20, 3) := by decide +kernel
theorem dX11_type_51 : decode cX11_type 51 = .ok (.aload_n 0, 1) := by decide +kernel
theorem dX11_type_52 : decode cX11_type 52 = .ok (.getfield 24, 3) := by decide +kernel
theorem dX11_type_55 : decode cX11_type 55 = .ok (.lload_n 1, 1) := by decide +kernel
theorem dX11_type_56 : decode cX11_type 56 = .ok (.iload 4, 2) := by decide +kernel
theorem dX11_type_58 : decode cX11_type 58 = .ok (.lushr, 1) := by decide +kernel
theorem dX11_type_59 : decode cX11_type 59 = .ok (.l2i, 1) := by decide +kernel
theorem dX11_type_60 : decode cX11_type 60 = .ok (.sipush 255, 3) := by decide +kernel
theorem dX11_type_63 : decode cX11_type 63 = .ok (.iand, 1) := by decide +kernel
theorem dX11_type_64 : decode cX11_type 64 = .ok (.iastore, 1) := by decide +kernel
theorem dX11_type_65 : decode cX11_type 65 = .ok (.aload_n 0, 1) := by decide +kernel
theorem dX11_type_66 : decode cX11_type 66 = .ok (.dup, 1) := by decide +kernel
theorem dX11_type_67 : decode cX11_type 67 = .ok (.getfield 24, 3) := by decide +kernel
theorem dX11_type_70 : decode cX11_type 70 = .ok (.iconst 1, 1) := by decide +kernel
theorem dX11_type_71 : decode cX11_type 71 = .ok (.iadd, 1) := by decide +kernel
theorem dX11_type_72 : decode cX11_type 72 = .ok (.putfield 24, 3) := by decide +kernel
theorem dX11_type_75 : decode cX11_type 75 = .ok (.iinc 4 (-8), 3) := by decide +kernel
theorem dX11_type_78 : decode cX11_type 78 = .ok (.goto (-36), 3) := by decide +kernel
theorem dX11_type_81 : decode cX11_type 81 = .ok (.aload_n 0, 1) := by decide +kernel
theorem dX11_type_82 : decode cX11_type 82 = .ok (.getfield 24, 3) := by decide +kernel
theorem dX11_type_85 : decode cX11_type 85 = .ok (.ireturn, 1) := by decide +kernel
theorem dX11_clear_0 : decode cX11_clear 0 = .ok (.aload_n 0, 1) := by decide +kernel
theorem dX11_clear_1 : decode cX11_clear 1 = .ok (.getfield 24, 3) := by decide +kernel
theorem dX11_clear_4 : decode cX11_clear 4 = .ok (.istore_n 1, 1) := by decide +kernel
theorem dX11_clear_5 : decode cX11_clear 5 = .ok (.aload_n 0, 1) := by decide +kernel
theorem dX11_clear_6 : decode cX11_clear 6 = .ok (.iconst 0, 1) := by decide +kernel
theorem dX11_clear_7 : decode cX11_clear 7 = .ok (.putfield 24, 3) := by decide +kernel
theorem dX11_clear_10 : decode cX11_clear 10 = .ok (.iload_n 1, 1) := by decide +kernel
theorem dX11_clear_11 : decode cX11_clear 11 = .ok (.ireturn, 1) := by decide +kernel
theorem dX11_read_0 : decode cX11_read 0 = .ok (.aload_n 0, 1) := by decide +kernel
theorem dX11_read_1 : decode cX11_read 1 = .ok (.getfield 75, 3) := by decide +kernel
theorem dX11_read_4 : decode cX11_read 4 = .ok (.aload_n 0, 1) := by decide +kernel
theorem dX11_read_5 : decode cX11_read 5 = .ok (.getfield 20, 3) := by decide +kernel
theorem dX11_read_8 : decode cX11_read 8 = .ok (.aload_n 0, 1) := by decide +kernel
theorem dX11_read_9 : decode cX11_read 9 = .ok (.getfield 24, 3) := by decide +kernel
theorem dX11_read_12 : decode cX11_read 12 = .ok (.invokevirtual 115, 3) := by decide +kernel
theorem dX11_read_15 : decode cX11_read 15 = .ok (.istore_n 1, 1) := by decide +kernel
theorem dX11_read_16 : decode cX11_read 16 = .ok (.iload_n 1, 1) := by decide +kernel
theorem dX11_read_17 : decode cX11_read 17 = .ok (.ifCond .ne 14, 3) := by decide +kernel
theorem dX11_read_20 : decode cX11_read 20 = .ok (.bipush (-10), 2) := by decide +kernel
theorem dX11_read_22 : decode cX11_read 22 = .ok (.aload_n 0, 1) := by decide +kernel
theorem dX11_read_23 : decode cX11_read 23 = .ok (.getfield 75, 3) := by decide +kernel
theorem dX11_read_26 : decode cX11_read 26 = .ok (.getfield 119, 3) := by decide +kernel
theorem dX11_read_29 : decode cX11_read 29 = .ok (.isub, 1) := by decide +kernel
theorem dX11_read_30 : decode cX11_read 30 = .ok (.ireturn, 1) := by decide +kernel
theorem dX11_read_31 : decode cX11_read 31 = .ok (.aload_n 0, 1) := by decide +kernel
theorem dX11_read_32 : decode cX11_read 32 = .ok (.getfield 12, 3) := by decide +kernel
theorem dX11_read_35 : decode cX11_read 35 = .ok (.aload_n 0, 1) := by decide +kernel
theorem dX11_read_36 : decode cX11_read 36 = .ok (.getfield 75, 3) := by decide +kernel
theorem dX11_read_39 : decode cX11_read 39 = .ok (.getfield 122, 3) := by decide +kernel
theorem dX11_read_42 : decode cX11_read 42 = .ok (.invokevirtual 125, 3) := by decide +kernel
theorem dX11_read_45 : decode cX11_read 45 = .ok (.aload_n 0, 1) := by decide +kernel
theorem dX11_read_46 : decode cX11_read 46 = .ok (.getfield 75, 3) := by decide +kernel
theorem dX11_read_49 : decode cX11_read 49 = .ok (.getfield 129, 3) := by decide +kernel
theorem dX11_read_52 : decode cX11_read 52 = .ok (.ireturn, 1) := by decide +kernel
theorem dX11_pull_0 : decode cX11_pull 0 = .ok (.aload_n 0, 1) := by decide +kernel
theorem dX11_pull_1 : decode cX11_pull 1 = .ok (.iload_n 1, 1) := by decide +kernel
theorem dX11_pull_2 : decode cX11_pull 2 = .ok (.iload_n 2, 1) := by decide +kernel
theorem dX11_pull_3 : decode cX11_pull 3 = .ok (.invokevirtual 132, 3) := by decide +kernel
theorem dX11_pull_6 : decode cX11_pull 6 = .ok (.ifCond .ne 10, 3) := by decide +kernel
theorem dX11_pull_9 : decode cX11_pull 9 = .ok (.aload_n 0, 1) := by decide +kernel
theorem dX11_pull_10 : decode cX11_pull 10 = .ok (.bipush (-2), 2) := by decide +kernel
theorem dX11_pull_12 : decode cX11_pull 12 = .ok (.invokevirtual 83, 3) := by decide +kernel
theorem dX11_pull_15 : decode cX11_pull 15 = .ok (.ireturn, 1) := by decide +kernel
theorem dX11_pull_16 : decode cX11_pull 16 = .ok (.aload_n 0, 1) := by decide +kernel
theorem dX11_pull_17 : decode cX11_pull 17 = .ok (.getfield 52, 3) := by decide +kernel
theorem dX11_pull_20 : decode cX11_pull 20 = .ok (.aload_n 0, 1) := by decide +kernel
theorem dX11_pull_21 : decode cX11_pull 21 = .ok (.getfield 12, 3) := by decide +kernel
theorem dX11_pull_24 : decode cX11_pull 24 = .ok (.aload_n 0, 1) := by decide +kernel
theorem dX11_pull_25 : decode cX11_pull 25 = .ok (.getfield 12, 3) := by decide +kernel
theorem dX11_pull_28 : decode cX11_pull 28 = .ok (.getfield 102, 3) := by decide +kernel
theorem dX11_pull_31 : decode cX11_pull 31 = .ok (.iload_n 1, 1) := by decide +kernel
theorem dX11_pull_32 : decode cX11_pull 32 = .ok (.iload_n 2, 1) := by decide +kernel
theorem dX11_pull_33 : decode cX11_pull 33 = .ok (.iconst (-1), 1) := by decide +kernel
theorem dX11_pull_34 : decode cX11_pull 34 = .ok (.iconst 0, 1) := by decide +kernel
theorem dX11_pull_35 : decode cX11_pull 35 = .ok (.invokevirtual 135, 3) := by decide +kernel
theorem dX11_pull_38 : decode cX11_pull 38 = .ok (.aload_n 0, 1) := by decide +kernel
theorem dX11_pull_39 : decode cX11_pull 39 = .ok (.invokevirtual 139, 3) := by decide +kernel
theorem dX11_pull_42 : decode cX11_pull 42 = .ok (.ireturn, 1) := by decide +kernel
theorem dX11_both_0 : decode cX11_both 0 = .ok (.aload_n 0, 1) := by decide +kernel
theorem dX11_both_1 : decode cX11_both 1 = .ok (.iload_n 1, 1) := by decide +kernel
theorem dX11_both_2 : decode cX11_both 2 = .ok (.iload_n 2, 1) := by decide +kernel
theorem dX11_both_3 : decode cX11_both 3 = .ok (.invokevirtual 132, 3) := by decide +kernel
theorem dX11_both_6 : decode cX11_both 6 = .ok (.ifCond .eq 18, 3) := by decide +kernel
theorem dX11_both_9 : decode cX11_both 9 = .ok (.aload_n 0, 1) := by decide +kernel
theorem dX11_both_10 : decode cX11_both 10 = .ok (.iload_n 3, 1) := by decide +kernel
theorem dX11_both_11 : decode cX11_both 11 = .ok (.iload 4, 2) := by decide +kernel
theorem dX11_both_13 : decode cX11_both 13 = .ok (.invokevirtual 132, 3) := by decide +kernel
theorem dX11_both_16 : decode cX11_both 16 = .ok (.ifCond .eq 8, 3) := by decide +kernel
theorem dX11_both_19 : decode cX11_both 19 = .ok (.iload_n 1, 1) := by decide +kernel
theorem dX11_both_20 : decode cX11_both 20 = .ok (.iload_n 3, 1) := by decide +kernel
theorem dX11_both_21 : decode cX11_both 21 = .ok (.if_icmp .ne 10, 3) := by decide +kernel
theorem dX11_both_24 : decode cX11_both 24 = .ok (.aload_n 0, 1) := by decide +kernel
theorem dX11_both_25 : decode cX11_both 25 = .ok (.bipush (-2), 2) := by decide +kernel
theorem dX11_both_27 : decode cX11_both 27 = .ok (.invokevirtual 83, 3) := by decide +kernel
theorem dX11_both_30 : decode cX11_both 30 = .ok (.ireturn, 1) := by decide +kernel
theorem dX11_both_31 : decode cX11_both 31 = .ok (.aload_n 0, 1) := by decide +kernel
theorem dX11_both_32 : decode cX11_both 32 = .ok (.getfield 52, 3) := by decide +kernel
theorem dX11_both_35 : decode cX11_both 35 = .ok (.aload_n 0, 1) := by decide +kernel
theorem dX11_both_36 : decode cX11_both 36 = .ok (.getfield 12, 3) := by decide +kernel
theorem dX11_both_39 : decode cX11_both 39 = .ok (.aload_n 0, 1) := by decide +kernel
theorem dX11_both_40 : decode cX11_both 40 = .ok (.getfield 12, 3) := by decide +kernel
theorem dX11_both_43 : decode cX11_both 43 = .ok (.getfield 102, 3) := by decide +kernel
theorem dX11_both_46 : decode cX11_both 46 = .ok (.iload_n 1, 1) := by decide +kernel
theorem dX11_both_47 : decode cX11_both 47 = .ok (.iload_n 2, 1) := by decide +kernel
theorem dX11_both_48 : decode cX11_both 48 = .ok (.iload_n 3, 1) := by decide +kernel
theorem dX11_both_49 : decode cX11_both 49 = .ok (.iload 4, 2) := by decide +kernel
theorem dX11_both_51 : decode cX11_both 51 = .ok (.invokevirtual 135, 3) := by decide +kernel
theorem dX11_both_54 : decode cX11_both 54 = .ok (.aload_n 0, 1) := by decide +kernel
theorem dX11_both_55 : decode cX11_both 55 = .ok (.invokevirtual 139, 3) := by decide +kernel
theorem dX11_both_58 : decode cX11_both 58 = .ok (.ireturn, 1) := by decide +kernel
theorem dX11_would_0 : decode cX11_would 0 = .ok (.aload_n 0, 1) := by decide +kernel
theorem dX11_would_1 : decode cX11_would 1 = .ok (.iload_n 1, 1) := by decide +kernel
theorem dX11_would_2 : decode cX11_would 2 = .ok (.iload_n 2, 1) := by decide +kernel
theorem dX11_would_3 : decode cX11_would 3 = .ok (.invokevirtual 132, 3) := by decide +kernel
theorem dX11_would_6 : decode cX11_would 6 = .ok (.ifCond .ne 10, 3) := by decide +kernel
theorem dX11_would_9 : decode cX11_would 9 = .ok (.aload_n 0, 1) := by decide +kernel
theorem dX11_would_10 : decode cX11_would 10 = .ok (.bipush (-2), 2) := by decide +kernel
theorem dX11_would_12 : decode cX11_would 12 = .ok (.invokevirtual 83, 3) := by decide +kernel
theorem dX11_would_15 : decode cX11_would 15 = .ok (.ireturn, 1) := by decide +kernel
theorem dX11_would_16 : decode cX11_would 16 = .ok (.aload_n 0, 1) := by decide +kernel
theorem dX11_would_17 : decode cX11_would 17 = .ok (.getfield 52, 3) := by decide +kernel
theorem dX11_would_20 : decode cX11_would 20 = .ok (.aload_n 0, 1) := by decide +kernel
theorem dX11_would_21 : decode cX11_would 21 = .ok (.getfield 12, 3) := by decide +kernel
theorem dX11_would_24 : decode cX11_would 24 = .ok (.aload_n 0, 1) := by decide +kernel
theorem dX11_would_25 : decode cX11_would 25 = .ok (.getfield 12, 3) := by decide +kernel
theorem dX11_would_28 : decode cX11_would 28 = .ok (.getfield 102, 3) := by decide +kernel
theorem dX11_would_31 : decode cX11_would 31 = .ok (.iload_n 1, 1) := by decide +kernel
theorem dX11_would_32 : decode cX11_would 32 = .ok (.iload_n 2, 1) := by decide +kernel
theorem dX11_would_33 : decode cX11_would 33 = .ok (.iconst (-1), 1) := by decide +kernel
theorem dX11_would_34 : decode cX11_would 34 = .ok (.iconst 0, 1) := by decide +kernel
theorem dX11_would_35 : decode cX11_would 35 = .ok (.invokevirtual 135, 3) := by decide +kernel
theorem dX11_would_38 : decode cX11_would 38 = .ok (.aload_n 0, 1) := by decide +kernel
theorem dX11_would_39 : decode cX11_would 39 = .ok (.getfield 52, 3) := by decide +kernel
theorem dX11_would_42 : decode cX11_would 42 = .ok (.aload_n 0, 1) := by decide +kernel
theorem dX11_would_43 : decode cX11_would 43 = .ok (.getfield 12, 3) := by decide +kernel
theorem dX11_would_46 : decode cX11_would 46 = .ok (.getfield 142, 3) := by decide +kernel
theorem dX11_would_49 : decode cX11_would 49 = .ok (.invokevirtual 145, 3) := by decide +kernel
theorem dX11_would_52 : decode cX11_would 52 = .ok (.ireturn, 1) := by decide +kernel
theorem dX11_open_0 : decode cX11_open 0 = .ok (.aload_n 0, 1) := by decide +kernel
theorem dX11_open_1 : decode cX11_open 1 = .ok (.getfield 12, 3) := by decide +kernel
theorem dX11_open_4 : decode cX11_open 4 = .ok (.getfield 142, 3) := by decide +kernel
theorem dX11_open_7 : decode cX11_open 7 = .ok (.ireturn, 1) := by decide +kernel
theorem dX11_moves_0 : decode cX11_moves 0 = .ok (.aload_n 0, 1) := by decide +kernel
theorem dX11_moves_1 : decode cX11_moves 1 = .ok (.iload_n 1, 1) := by decide +kernel
theorem dX11_moves_2 : decode cX11_moves 2 = .ok (.iload_n 2, 1) := by decide +kernel
theorem dX11_moves_3 : decode cX11_moves 3 = .ok (.invokevirtual 132, 3) := by decide +kernel
theorem dX11_moves_6 : decode cX11_moves 6 = .ok (.ifCond .eq 14, 3) := by decide +kernel
theorem dX11_moves_9 : decode cX11_moves 9 = .ok (.aload_n 0, 1) := by decide +kernel
theorem dX11_moves_10 : decode cX11_moves 10 = .ok (.getfield 12, 3) := by decide +kernel
theorem dX11_moves_13 : decode cX11_moves 13 = .ok (.iload_n 3, 1) := by decide +kernel
theorem dX11_moves_14 : decode cX11_moves 14 = .ok (.invokevirtual 98, 3) := by decide +kernel
theorem dX11_moves_17 : decode cX11_moves 17 = .ok (.ifCond .ne 10, 3) := by decide +kernel
theorem dX11_moves_20 : decode cX11_moves 20 = .ok (.aload_n 0, 1) := by decide +kernel
theorem dX11_moves_21 : decode cX11_moves 21 = .ok (.bipush (-2), 2) := by decide +kernel
theorem dX11_moves_23 : decode cX11_moves 23 = .ok (.invokevirtual 83, 3) := by decide +kernel
theorem dX11_moves_26 : decode cX11_moves 26 = .ok (.ireturn, 1) := by decide +kernel
theorem dX11_moves_27 : decode cX11_moves 27 = .ok (.aload_n 0, 1) := by decide +kernel
theorem dX11_moves_28 : decode cX11_moves 28 = .ok (.getfield 52, 3) := by decide +kernel
theorem dX11_moves_31 : decode cX11_moves 31 = .ok (.aload_n 0, 1) := by decide +kernel
theorem dX11_moves_32 : decode cX11_moves 32 = .ok (.getfield 12, 3) := by decide +kernel
theorem dX11_moves_35 : decode cX11_moves 35 = .ok (.aload_n 0, 1) := by decide +kernel
theorem dX11_moves_36 : decode cX11_moves 36 = .ok (.getfield 12, 3) := by decide +kernel
theorem dX11_moves_39 : decode cX11_moves 39 = .ok (.getfield 102, 3) := by decide +kernel
theorem dX11_moves_42 : decode cX11_moves 42 = .ok (.iload_n 1, 1) := by decide +kernel
theorem dX11_moves_43 : decode cX11_moves 43 = .ok (.iload_n 2, 1) := by decide +kernel
theorem dX11_moves_44 : decode cX11_moves 44 = .ok (.iconst (-1), 1) := by decide +kernel
theorem dX11_moves_45 : decode cX11_moves 45 = .ok (.iconst 0, 1) := by decide +kernel
theorem dX11_moves_46 : decode cX11_moves 46 = .ok (.invokevirtual 135, 3) := by decide +kernel
theorem dX11_moves_49 : decode cX11_moves 49 = .ok (.aload_n 0, 1) := by decide +kernel
theorem dX11_moves_50 : decode cX11_moves 50 = .ok (.getfield 52, 3) := by decide +kernel
theorem dX11_moves_53 : decode cX11_moves 53 = .ok (.aload_n 0, 1) := by decide +kernel
theorem dX11_moves_54 : decode cX11_moves 54 = .ok (.getfield 12, 3) := by decide +kernel
theorem dX11_moves_57 : decode cX11_moves 57 = .ok (.aload_n 0, 1) := by decide +kernel
theorem dX11_moves_58 : decode cX11_moves 58 = .ok (.getfield 12, 3) := by decide +kernel
theorem dX11_moves_61 : decode cX11_moves 61 = .ok (.getfield 102, 3) := by decide +kernel
theorem dX11_moves_64 : decode cX11_moves 64 = .ok (.iload_n 3, 1) := by decide +kernel
theorem dX11_moves_65 : decode cX11_moves 65 = .ok (.invokevirtual 148, 3) := by decide +kernel
theorem dX11_moves_68 : decode cX11_moves 68 = .ok (.ireturn, 1) := by decide +kernel
theorem dX11_undo_0 : decode cX11_undo 0 = .ok (.aload_n 0, 1) := by decide +kernel
theorem dX11_undo_1 : decode cX11_undo 1 = .ok (.getfield 12, 3) := by decide +kernel
theorem dX11_undo_4 : decode cX11_undo 4 = .ok (.getfield 152, 3) := by decide +kernel
theorem dX11_undo_7 : decode cX11_undo 7 = .ok (.ifCond .gt 8, 3) := by decide +kernel
theorem dX11_undo_10 : decode cX11_undo 10 = .ok (.aload_n 0, 1) := by decide +kernel
theorem dX11_undo_11 : decode cX11_undo 11 = .ok (.invokevirtual 109, 3) := by decide +kernel
theorem dX11_undo_14 : decode cX11_undo 14 = .ok (.ireturn, 1) := by decide +kernel
theorem dX11_undo_15 : decode cX11_undo 15 = .ok (.aload_n 0, 1) := by decide +kernel
theorem dX11_undo_16 : decode cX11_undo 16 = .ok (.getfield 12, 3) := by decide +kernel
theorem dX11_undo_19 : decode cX11_undo 19 = .ok (.invokevirtual 155, 3) := by decide +kernel
theorem dX11_undo_22 : decode cX11_undo 22 = .ok (.iconst 1, 1) := by decide +kernel
theorem dX11_undo_23 : decode cX11_undo 23 = .ok (.ireturn, 1) := by decide +kernel
theorem dX11_errand_0 : decode cX11_errand 0 = .ok (.aload_n 0, 1) := by decide +kernel
theorem dX11_errand_1 : decode cX11_errand 1 = .ok (.iload_n 1, 1) := by decide +kernel
theorem dX11_errand_2 : decode cX11_errand 2 = .ok (.iload_n 2, 1) := by decide +kernel
theorem dX11_errand_3 : decode cX11_errand 3 = .ok (.invokevirtual 132, 3) := by decide +kernel
theorem dX11_errand_6 : decode cX11_errand 6 = .ok (.ifCond .ne 10, 3) := by decide +kernel
theorem dX11_errand_9 : decode cX11_errand 9 = .ok (.aload_n 0, 1) := by decide +kernel
theorem dX11_errand_10 : decode cX11_errand 10 = .ok (.bipush (-2), 2) := by decide +kernel
theorem dX11_errand_12 : decode cX11_errand 12 = .ok (.invokevirtual 83, 3) := by decide +kernel
theorem dX11_errand_15 : decode cX11_errand 15 = .ok (.ireturn, 1) := by decide +kernel
theorem dX11_errand_16 : decode cX11_errand 16 = .ok (.aload_n 0, 1) := by decide +kernel
theorem dX11_errand_17 : decode cX11_errand 17 = .ok (.getfield 12, 3) := by decide +kernel
theorem dX11_errand_20 : decode cX11_errand 20 = .ok (.getfield 158, 3) := by decide +kernel
theorem dX11_errand_23 : decode cX11_errand 23 = .ok (.iconst 5, 1) := by decide +kernel
theorem dX11_errand_24 : decode cX11_errand 24 = .ok (.if_icmp .lt 8, 3) := by decide +kernel
theorem dX11_errand_27 : decode cX11_errand 27 = .ok (.aload_n 0, 1) := by decide +kernel
theorem dX11_errand_28 : decode cX11_errand 28 = .ok (.invokevirtual 90, 3) := by decide +kernel
theorem dX11_errand_31 : decode cX11_errand 31 = .ok (.ireturn, 1) := by decide +kernel
theorem dX11_errand_32 : decode cX11_errand 32 = .ok (.aload_n 0, 1) := by decide +kernel
theorem dX11_errand_33 : decode cX11_errand 33 = .ok (.getfield 12, 3) := by decide +kernel
theorem dX11_errand_36 : decode cX11_errand 36 = .ok (.iload_n 1, 1) := by decide +kernel
theorem dX11_errand_37 : decode cX11_errand 37 = .ok (.iload_n 2, 1) := by decide +kernel
theorem dX11_errand_38 : decode cX11_errand 38 = .ok (.invokevirtual 161, 3) := by decide +kernel
theorem dX11_errand_41 : decode cX11_errand 41 = .ok (.aload_n 0, 1) := by decide +kernel
theorem dX11_errand_42 : decode cX11_errand 42 = .ok (.getfield 12, 3) := by decide +kernel
theorem dX11_errand_45 : decode cX11_errand 45 = .ok (.getfield 158, 3) := by decide +kernel
theorem dX11_errand_48 : decode cX11_errand 48 = .ok (.iconst 1, 1) := by decide +kernel
theorem dX11_errand_49 : decode cX11_errand 49 = .ok (.isub, 1) := by decide +kernel
theorem dX11_errand_50 : decode cX11_errand 50 = .ok (.ireturn, 1) := by decide +kernel
theorem dX11_drop_0 : decode cX11_drop 0 = .ok (.aload_n 0, 1) := by decide +kernel
theorem dX11_drop_1 : decode cX11_drop 1 = .ok (.getfield 12, 3) := by decide +kernel
theorem dX11_drop_4 : decode cX11_drop 4 = .ok (.getfield 158, 3) := by decide +kernel
theorem dX11_drop_7 : decode cX11_drop 7 = .ok (.ifCond .gt 8, 3) := by decide +kernel
theorem dX11_drop_10 : decode cX11_drop 10 = .ok (.aload_n 0, 1) := by decide +kernel
theorem dX11_drop_11 : decode cX11_drop 11 = .ok (.invokevirtual 109, 3) := by decide +kernel
theorem dX11_drop_14 : decode cX11_drop 14 = .ok (.ireturn, 1) := by decide +kernel
theorem dX11_drop_15 : decode cX11_drop 15 = .ok (.aload_n 0, 1) := by decide +kernel
theorem dX11_drop_16 : decode cX11_drop 16 = .ok (.getfield 12, 3) := by decide +kernel
theorem dX11_drop_19 : decode cX11_drop 19 = .ok (.dup, 1) := by decide +kernel
theorem dX11_drop_20 : decode cX11_drop 20 = .ok (.getfield 158, 3) := by decide +kernel
theorem dX11_drop_23 : decode cX11_drop 23 = .ok (.iconst 1, 1) := by decide +kernel
theorem dX11_drop_24 : decode cX11_drop 24 = .ok (.isub, 1) := by decide +kernel
theorem dX11_drop_25 : decode cX11_drop 25 = .ok (.putfield 158, 3) := by decide +kernel
theorem dX11_drop_28 : decode cX11_drop 28 = .ok (.aload_n 0, 1) := by decide +kernel
theorem dX11_drop_29 : decode cX11_drop 29 = .ok (.getfield 12, 3) := by decide +kernel
theorem dX11_drop_32 : decode cX11_drop 32 = .ok (.getfield 158, 3) := by decide +kernel
theorem dX11_drop_35 : decode cX11_drop 35 = .ok (.ireturn, 1) := by decide +kernel
theorem dX11_order_0 : decode cX11_order 0 = .ok (.iload_n 1, 1) := by decide +kernel
theorem dX11_order_1 : decode cX11_order 1 = .ok (.iconst (-1), 1) := by decide +kernel
theorem dX11_order_2 : decode cX11_order 2 = .ok (.if_icmp .ge 10, 3) := by decide +kernel
theorem dX11_order_5 : decode cX11_order 5 = .ok (.aload_n 0, 1) := by decide +kernel
theorem dX11_order_6 : decode cX11_order 6 = .ok (.bipush (-10), 2) := by decide +kernel
theorem dX11_order_8 : decode cX11_order 8 = .ok (.invokevirtual 83, 3) := by decide +kernel
theorem dX11_order_11 : decode cX11_order 11 = .ok (.ireturn, 1) := by decide +kernel
theorem dX11_order_12 : decode cX11_order 12 = .ok (.iload_n 1, 1) := by decide +kernel
theorem dX11_order_13 : decode cX11_order 13 = .ok (.aload_n 0, 1) := by decide +kernel
theorem dX11_order_14 : decode cX11_order 14 = .ok (.getfield 12, 3) := by decide +kernel
theorem dX11_order_17 : decode cX11_order 17 = .ok (.getfield 158, 3) := by decide +kernel
theorem dX11_order_20 : decode cX11_order 20 = .ok (.if_icmp .lt 6, 3) := by decide +kernel
theorem dX11_order_23 : decode cX11_order 23 = .ok (.bipush (-5), 2) := by decide +kernel
theorem dX11_order_25 : decode cX11_order 25 = .ok (.ireturn, 1) := by decide +kernel
theorem dX11_order_26 : decode cX11_order 26 = .ok (.aload_n 0, 1) := by decide +kernel
theorem dX11_order_27 : decode cX11_order 27 = .ok (.getfield 61, 3) := by decide +kernel
theorem dX11_order_30 : decode cX11_order 30 = .ok (.aload_n 0, 1) := by decide +kernel
theorem dX11_order_31 : decode cX11_order 31 = .ok (.getfield 12, 3) := by decide +kernel
theorem dX11_order_34 : decode cX11_order 34 = .ok (.invokevirtual 165, 3) := by decide +kernel
theorem dX11_order_37 : decode cX11_order 37 = .ok (.iload_n 1, 1) := by decide +kernel
theorem dX11_order_38 : decode cX11_order 38 = .ok (.iconst (-1), 1) := by decide +kernel
theorem dX11_order_39 : decode cX11_order 39 = .ok (.if_icmp .ne 13, 3) := by decide +kernel
theorem dX11_order_42 : decode cX11_order 42 = .ok (.aload_n 0, 1) := by decide +kernel
theorem dX11_order_43 : decode cX11_order 43 = .ok (.getfield 61, 3) := by decide +kernel
theorem dX11_order_46 : decode cX11_order 46 = .ok (.getfield 168, 3) := by decide +kernel
theorem dX11_order_49 : decode cX11_order 49 = .ok (.goto 12, 3) := by decide +kernel
theorem dX11_order_52 : decode cX11_order 52 = .ok (.aload_n 0, 1) := by decide +kernel
theorem dX11_order_53 : decode cX11_order 53 = .ok (.getfield 61, 3) := by decide +kernel
theorem dX11_order_56 : decode cX11_order 56 = .ok (.getfield 171, 3) := by decide +kernel
theorem dX11_order_59 : decode cX11_order 59 = .ok (.iload_n 1, 1) := by decide +kernel
theorem dX11_order_60 : decode cX11_order 60 = .ok (.iaload, 1) := by decide +kernel
theorem dX11_order_61 : decode cX11_order 61 = .ok (.ireturn, 1) := by decide +kernel
theorem dX11_code_0 : decode cX11_code 0 = .ok (.aload_n 0, 1) := by decide +kernel
theorem dX11_code_1 : decode cX11_code 1 = .ok (.getfield 12, 3) := by decide +kernel
theorem dX11_code_4 : decode cX11_code 4 = .ok (.iload_n 1, 1) := by decide +kernel
theorem dX11_code_5 : decode cX11_code 5 = .ok (.invokevirtual 174, 3) := by decide +kernel
theorem dX11_code_8 : decode cX11_code 8 = .ok (.ifCond .eq 8, 3) := by decide +kernel
theorem dX11_code_11 : decode cX11_code 11 = .ok (.iload_n 2, 1) := by decide +kernel
theorem dX11_code_12 : decode cX11_code 12 = .ok (.iconst (-1), 1) := by decide +kernel
theorem dX11_code_13 : decode cX11_code 13 = .ok (.if_icmp .ge 10, 3) := by decide +kernel
theorem dX11_code_16 : decode cX11_code 16 = .ok (.aload_n 0, 1) := by decide +kernel
theorem dX11_code_17 : decode cX11_code 17 = .ok (.bipush (-10), 2) := by decide +kernel
theorem dX11_code_19 : decode cX11_code 19 = .ok (.invokevirtual 83, 3) := by decide +kernel
theorem dX11_code_22 : decode cX11_code 22 = .ok (.ireturn, 1) := by decide +kernel
theorem dX11_code_23 : decode cX11_code 23 = .ok (.aload_n 0, 1) := by decide +kernel
theorem dX11_code_24 : decode cX11_code 24 = .ok (.getfield 61, 3) := by decide +kernel
theorem dX11_code_27 : decode cX11_code 27 = .ok (.aload_n 0, 1) := by decide +kernel
theorem dX11_code_28 : decode cX11_code 28 = .ok (.getfield 12, 3) := by decide +kernel
theorem dX11_code_31 : decode cX11_code 31 = .ok (.invokevirtual 177, 3) := by decide +kernel
theorem dX11_code_34 : decode cX11_code 34 = .ok (.aload_n 0, 1) := by decide +kernel
theorem dX11_code_35 : decode cX11_code 35 = .ok (.getfield 61, 3) := by decide +kernel
theorem dX11_code_38 : decode cX11_code 38 = .ok (.getfield 180, 3) := by decide +kernel
theorem dX11_code_41 : decode cX11_code 41 = .ok (.iload_n 1, 1) := by decide +kernel
theorem dX11_code_42 : decode cX11_code 42 = .ok (.iaload, 1) := by decide +kernel
theorem dX11_code_43 : decode cX11_code 43 = .ok (.istore_n 3, 1) := by decide +kernel
theorem dX11_code_44 : decode cX11_code 44 = .ok (.iload_n 2, 1) := by decide +kernel
theorem dX11_code_45 : decode cX11_code 45 = .ok (.iconst (-1), 1) := by decide +kernel
theorem dX11_code_46 : decode cX11_code 46 = .ok (.if_icmp .eq 8, 3) := by decide +kernel
theorem dX11_code_49 : decode cX11_code 49 = .ok (.iload_n 3, 1) := by decide +kernel
theorem dX11_code_50 : decode cX11_code 50 = .ok (.iconst (-1), 1) := by decide +kernel
theorem dX11_code_51 : decode cX11_code 51 = .ok (.if_icmp .ne 5, 3) := by decide +kernel
theorem dX11_code_54 : decode cX11_code 54 = .ok (.iload_n 3, 1) := by decide +kernel
theorem dX11_code_55 : decode cX11_code 55 = .ok (.ireturn, 1) := by decide +kernel
theorem dX11_code_56 : decode cX11_code 56 = .ok (.iload_n 2, 1) := by decide +kernel
theorem dX11_code_57 : decode cX11_code 57 = .ok (.iload_n 3, 1) := by decide +kernel
theorem dX11_code_58 : decode cX11_code 58 = .ok (.if_icmp .lt 8, 3) := by decide +kernel
theorem dX11_code_61 : decode cX11_code 61 = .ok (.bipush (-5), 2) := by decide +kernel
theorem dX11_code_63 : decode cX11_code 63 = .ok (.goto 12, 3) := by decide +kernel
theorem dX11_code_66 : decode cX11_code 66 = .ok (.aload_n 0, 1) := by decide +kernel
theorem dX11_code_67 : decode cX11_code 67 = .ok (.getfield 61, 3) := by decide +kernel
theorem dX11_code_70 : decode cX11_code 70 = .ok (.iload_n 1, 1) := by decide +kernel
theorem dX11_code_71 : decode cX11_code 71 = .ok (.iload_n 2, 1) := by decide +kernel
theorem dX11_code_72 : decode cX11_code 72 = .ok (.invokevirtual 183, 3) := by decide +kernel
theorem dX11_code_75 : decode cX11_code 75 = .ok (.ireturn, 1) := by decide +kernel
theorem dX11_who_0 : decode cX11_who 0 = .ok (.aload_n 0, 1) := by decide +kernel
theorem dX11_who_1 : decode cX11_who 1 = .ok (.getfield 12, 3) := by decide +kernel
theorem dX11_who_4 : decode cX11_who 4 = .ok (.iload_n 1, 1) := by decide +kernel
theorem dX11_who_5 : decode cX11_who 5 = .ok (.invokevirtual 174, 3) := by decide +kernel
theorem dX11_who_8 : decode cX11_who 8 = .ok (.ifCond .eq 12, 3) := by decide +kernel
theorem dX11_who_11 : decode cX11_who 11 = .ok (.iload_n 2, 1) := by decide +kernel
theorem dX11_who_12 : decode cX11_who 12 = .ok (.iconst 0, 1) := by decide +kernel
theorem dX11_who_13 : decode cX11_who 13 = .ok (.iconst 1, 1) := by decide +kernel
theorem dX11_who_14 : decode cX11_who 14 = .ok (.invokestatic 79, 3) := by decide +kernel
theorem dX11_who_17 : decode cX11_who 17 = .ok (.ifCond .ne 10, 3) := by decide +kernel
theorem dX11_who_20 : decode cX11_who 20 = .ok (.aload_n 0, 1) := by decide +kernel
theorem dX11_who_21 : decode cX11_who 21 = .ok (.bipush (-10), 2) := by decide +kernel
theorem dX11_who_23 : decode cX11_who 23 = .ok (.invokevirtual 83, 3) := by decide +kernel
theorem dX11_who_26 : decode cX11_who 26 = .ok (.ireturn, 1) := by decide +kernel
theorem dX11_who_27 : decode cX11_who 27 = .ok (.aload_n 0, 1) := by decide +kernel
theorem dX11_who_28 : decode cX11_who 28 = .ok (.getfield 61, 3) := by decide +kernel
theorem dX11_who_31 : decode cX11_who 31 = .ok (.aload_n 0, 1) := by decide +kernel
theorem dX11_who_32 : decode cX11_who 32 = .ok (.getfield 12, 3) := by decide +kernel
theorem dX11_who_35 : decode cX11_who 35 = .ok (.invokevirtual 187, 3) := by decide +kernel
theorem dX11_who_38 : decode cX11_who 38 = .ok (.iload_n 2, 1) := by decide +kernel
theorem dX11_who_39 : decode cX11_who 39 = .ok (.ifCond .ne 14, 3) := by decide +kernel
theorem dX11_who_42 : decode cX11_who 42 = .ok (.aload_n 0, 1) := by decide +kernel
theorem dX11_who_43 : decode cX11_who 43 = .ok (.getfield 61, 3) := by decide +kernel
theorem dX11_who_46 : decode cX11_who 46 = .ok (.iload_n 1, 1) := by decide +kernel
theorem dX11_who_47 : decode cX11_who 47 = .ok (.invokevirtual 190, 3) := by decide +kernel
theorem dX11_who_50 : decode cX11_who 50 = .ok (.goto 11, 3) := by decide +kernel
theorem dX11_who_53 : decode cX11_who 53 = .ok (.aload_n 0, 1) := by decide +kernel
theorem dX11_who_54 : decode cX11_who 54 = .ok (.getfield 61, 3) := by decide +kernel
theorem dX11_who_57 : decode cX11_who 57 = .ok (.iload_n 1, 1) := by decide +kernel
theorem dX11_who_58 : decode cX11_who 58 = .ok (.invokevirtual 193, 3) := by decide +kernel
theorem dX11_who_61 : decode cX11_who 61 = .ok (.ireturn, 1) := by decide +kernel
theorem dX11_heard_0 : decode cX11_heard 0 = .ok (.iload_n 1, 1) := by decide +kernel
theorem dX11_heard_1 : decode cX11_heard 1 = .ok (.ifCond .ge 10, 3) := by decide +kernel
theorem dX11_heard_4 : decode cX11_heard 4 = .ok (.aload_n 0, 1) := by decide +kernel
theorem dX11_heard_5 : decode cX11_heard 5 = .ok (.bipush (-2), 2) := by decide +kernel
theorem dX11_heard_7 : decode cX11_heard 7 = .ok (.invokevirtual 83, 3) := by decide +kernel
theorem dX11_heard_10 : decode cX11_heard 10 = .ok (.ireturn, 1) := by decide +kernel
theorem dX11_heard_11 : decode cX11_heard 11 = .ok (.aload_n 0, 1) := by decide +kernel
theorem dX11_heard_12 : decode cX11_heard 12 = .ok (.getfield 61, 3) := by decide +kernel
theorem dX11_heard_15 : decode cX11_heard 15 = .ok (.aload_n 0, 1) := by decide +kernel
theorem dX11_heard_16 : decode cX11_heard 16 = .ok (.getfield 12, 3) := by decide +kernel
theorem dX11_heard_19 : decode cX11_heard 19 = .ok (.aload_n 0, 1) := by decide +kernel
theorem dX11_heard_20 : decode cX11_heard 20 = .ok (.getfield 12, 3) := by decide +kernel
theorem dX11_heard_23 : decode cX11_heard 23 = .ok (.getfield 102, 3) := by decide +kernel
theorem dX11_heard_26 : decode cX11_heard 26 = .ok (.invokevirtual 196, 3) := by decide +kernel
theorem dX11_heard_29 : decode cX11_heard 29 = .ok (.aload_n 0, 1) := by decide +kernel
theorem dX11_heard_30 : decode cX11_heard 30 = .ok (.getfield 61, 3) := by decide +kernel
theorem dX11_heard_33 : decode cX11_heard 33 = .ok (.iload_n 1, 1) := by decide +kernel
theorem dX11_heard_34 : decode cX11_heard 34 = .ok (.invokevirtual 200, 3) := by decide +kernel
theorem dX11_heard_37 : decode cX11_heard 37 = .ok (.ireturn, 1) := by decide +kernel
theorem dX11_cuts_0 : decode cX11_cuts 0 = .ok (.aload_n 0, 1) := by decide +kernel
theorem dX11_cuts_1 : decode cX11_cuts 1 = .ok (.getfield 12, 3) := by decide +kernel
theorem dX11_cuts_4 : decode cX11_cuts 4 = .ok (.iload_n 1, 1) := by decide +kernel
theorem dX11_cuts_5 : decode cX11_cuts 5 = .ok (.invokevirtual 174, 3) := by decide +kernel
theorem dX11_cuts_8 : decode cX11_cuts 8 = .ok (.ifCond .ne 10, 3) := by decide +kernel
theorem dX11_cuts_11 : decode cX11_cuts 11 = .ok (.aload_n 0, 1) := by decide +kernel
theorem dX11_cuts_12 : decode cX11_cuts 12 = .ok (.bipush (-10), 2) := by decide +kernel
theorem dX11_cuts_14 : decode cX11_cuts 14 = .ok (.invokevirtual 83, 3) := by decide +kernel
theorem dX11_cuts_17 : decode cX11_cuts 17 = .ok (.ireturn, 1) := by decide +kernel
theorem dX11_cuts_18 : decode cX11_cuts 18 = .ok (.aload_n 0, 1) := by decide +kernel
theorem dX11_cuts_19 : decode cX11_cuts 19 = .ok (.getfield 61, 3) := by decide +kernel
theorem dX11_cuts_22 : decode cX11_cuts 22 = .ok (.aload_n 0, 1) := by decide +kernel
theorem dX11_cuts_23 : decode cX11_cuts 23 = .ok (.getfield 12, 3) := by decide +kernel
theorem dX11_cuts_26 : decode cX11_cuts 26 = .ok (.iload_n 1, 1) := by decide +kernel
theorem dX11_cuts_27 : decode cX11_cuts 27 = .ok (.invokevirtual 203, 3) := by decide +kernel
theorem dX11_cuts_30 : decode cX11_cuts 30 = .ok (.ireturn, 1) := by decide +kernel
theorem dX11_rule_0 : decode cX11_rule 0 = .ok (.aload_n 0, 1) := by decide +kernel
theorem dX11_rule_1 : decode cX11_rule 1 = .ok (.iload_n 1, 1) := by decide +kernel
theorem dX11_rule_2 : decode cX11_rule 2 = .ok (.iload_n 2, 1) := by decide +kernel
theorem dX11_rule_3 : decode cX11_rule 3 = .ok (.invokevirtual 132, 3) := by decide +kernel
theorem dX11_rule_6 : decode cX11_rule 6 = .ok (.ifCond .eq 14, 3) := by decide +kernel
theorem dX11_rule_9 : decode cX11_rule 9 = .ok (.aload_n 0, 1) := by decide +kernel
theorem dX11_rule_10 : decode cX11_rule 10 = .ok (.getfield 12, 3) := by decide +kernel
theorem dX11_rule_13 : decode cX11_rule 13 = .ok (.iload_n 3, 1) := by decide +kernel
theorem dX11_rule_14 : decode cX11_rule 14 = .ok (.invokevirtual 174, 3) := by decide +kernel
theorem dX11_rule_17 : decode cX11_rule 17 = .ok (.ifCond .ne 10, 3) := by decide +kernel
theorem dX11_rule_20 : decode cX11_rule 20 = .ok (.aload_n 0, 1) := by decide +kernel
theorem dX11_rule_21 : decode cX11_rule 21 = .ok (.bipush (-2), 2) := by decide +kernel
theorem dX11_rule_23 : decode cX11_rule 23 = .ok (.invokevirtual 83, 3) := by decide +kernel
theorem dX11_rule_26 : decode cX11_rule 26 = .ok (.ireturn, 1) := by decide +kernel
theorem dX11_rule_27 : decode cX11_rule 27 = .ok (.aload_n 0, 1) := by decide +kernel
theorem dX11_rule_28 : decode cX11_rule 28 = .ok (.getfield 12, 3) := by decide +kernel
theorem dX11_rule_31 : decode cX11_rule 31 = .ok (.getfield 207, 3) := by decide +kernel
theorem dX11_rule_34 : decode cX11_rule 34 = .ok (.iconst 4, 1) := by decide +kernel
theorem dX11_rule_35 : decode cX11_rule 35 = .ok (.if_icmp .lt 8, 3) := by decide +kernel
theorem dX11_rule_38 : decode cX11_rule 38 = .ok (.aload_n 0, 1) := by decide +kernel
theorem dX11_rule_39 : decode cX11_rule 39 = .ok (.invokevirtual 90, 3) := by decide +kernel
theorem dX11_rule_42 : decode cX11_rule 42 = .ok (.ireturn, 1) := by decide +kernel
theorem dX11_rule_43 : decode cX11_rule 43 = .ok (.aload_n 0, 1) := by decide +kernel
theorem dX11_rule_44 : decode cX11_rule 44 = .ok (.getfield 12, 3) := by decide +kernel
theorem dX11_rule_47 : decode cX11_rule 47 = .ok (.iload_n 1, 1) := by decide +kernel
theorem dX11_rule_48 : decode cX11_rule 48 = .ok (.iload_n 2, 1) := by decide +kernel
theorem dX11_rule_49 : decode cX11_rule 49 = .ok (.iload_n 3, 1) := by decide +kernel
theorem dX11_rule_50 : decode cX11_rule 50 = .ok (.invokevirtual 210, 3) := by decide +kernel
theorem dX11_rule_53 : decode cX11_rule 53 = .ok (.aload_n 0, 1) := by decide +kernel
theorem dX11_rule_54 : decode cX11_rule 54 = .ok (.getfield 12, 3) := by decide +kernel
theorem dX11_rule_57 : decode cX11_rule 57 = .ok (.getfield 207, 3) := by decide +kernel
theorem dX11_rule_60 : decode cX11_rule 60 = .ok (.iconst 1, 1) := by decide +kernel
theorem dX11_rule_61 : decode cX11_rule 61 = .ok (.isub, 1) := by decide +kernel
theorem dX11_rule_62 : decode cX11_rule 62 = .ok (.ireturn, 1) := by decide +kernel
theorem dX11_free_0 : decode cX11_free 0 = .ok (.aload_n 0, 1) := by decide +kernel
theorem dX11_free_1 : decode cX11_free 1 = .ok (.getfield 12, 3) := by decide +kernel
theorem dX11_free_4 : decode cX11_free 4 = .ok (.getfield 207, 3) := by decide +kernel
theorem dX11_free_7 : decode cX11_free 7 = .ok (.istore_n 1, 1) := by decide +kernel
theorem dX11_free_8 : decode cX11_free 8 = .ok (.aload_n 0, 1) := by decide +kernel
theorem dX11_free_9 : decode cX11_free 9 = .ok (.getfield 12, 3) := by decide +kernel
theorem dX11_free_12 : decode cX11_free 12 = .ok (.iconst 0, 1) := by decide +kernel
theorem dX11_free_13 : decode cX11_free 13 = .ok (.putfield 207, 3) := by decide +kernel
theorem dX11_free_16 : decode cX11_free 16 = .ok (.iload_n 1, 1) := by decide +kernel
theorem dX11_free_17 : decode cX11_free 17 = .ok (.ireturn, 1) := by decide +kernel
theorem dX11_slack_0 : decode cX11_slack 0 = .ok (.aload_n 0, 1) := by decide +kernel
theorem dX11_slack_1 : decode cX11_slack 1 = .ok (.getfield 12, 3) := by decide +kernel
theorem dX11_slack_4 : decode cX11_slack 4 = .ok (.iload_n 1, 1) := by decide +kernel
theorem dX11_slack_5 : decode cX11_slack 5 = .ok (.invokevirtual 98, 3) := by decide +kernel
theorem dX11_slack_8 : decode cX11_slack 8 = .ok (.ifCond .ne 10, 3) := by decide +kernel
theorem dX11_slack_11 : decode cX11_slack 11 = .ok (.aload_n 0, 1) := by decide +kernel
theorem dX11_slack_12 : decode cX11_slack 12 = .ok (.bipush (-10), 2) := by decide +kernel
theorem dX11_slack_14 : decode cX11_slack 14 = .ok (.invokevirtual 83, 3) := by decide +kernel
theorem dX11_slack_17 : decode cX11_slack 17 = .ok (.ireturn, 1) := by decide +kernel
theorem dX11_slack_18 : decode cX11_slack 18 = .ok (.aload_n 0, 1) := by decide +kernel
theorem dX11_slack_19 : decode cX11_slack 19 = .ok (.getfield 68, 3) := by decide +kernel
theorem dX11_slack_22 : decode cX11_slack 22 = .ok (.aload_n 0, 1) := by decide +kernel
theorem dX11_slack_23 : decode cX11_slack 23 = .ok (.getfield 12, 3) := by decide +kernel
theorem dX11_slack_26 : decode cX11_slack 26 = .ok (.invokevirtual 214, 3) := by decide +kernel
theorem dX11_slack_29 : decode cX11_slack 29 = .ok (.aload_n 0, 1) := by decide +kernel
theorem dX11_slack_30 : decode cX11_slack 30 = .ok (.getfield 68, 3) := by decide +kernel
theorem dX11_slack_33 : decode cX11_slack 33 = .ok (.iconst 0, 1) := by decide +kernel
theorem dX11_slack_34 : decode cX11_slack 34 = .ok (.invokevirtual 217, 3) := by decide +kernel
theorem dX11_slack_37 : decode cX11_slack 37 = .ok (.ifCond .eq 15, 3) := by decide +kernel
theorem dX11_slack_40 : decode cX11_slack 40 = .ok (.aload_n 0, 1) := by decide +kernel
theorem dX11_slack_41 : decode cX11_slack 41 = .ok (.getfield 68, 3) := by decide +kernel
theorem dX11_slack_44 : decode cX11_slack 44 = .ok (.getfield 220, 3) := by decide +kernel
theorem dX11_slack_47 : decode cX11_slack 47 = .ok (.iload_n 1, 1) := by decide +kernel
theorem dX11_slack_48 : decode cX11_slack 48 = .ok (.iaload, 1) := by decide +kernel
theorem dX11_slack_49 : decode cX11_slack 49 = .ok (.goto 4, 3) := by decide +kernel
theorem dX11_slack_52 : decode cX11_slack 52 = .ok (.iconst (-1), 1) := by decide +kernel
theorem dX11_slack_53 : decode cX11_slack 53 = .ok (.ireturn, 1) := by decide +kernel
theorem dX11_giveUp_0 : decode cX11_giveUp 0 = .ok (.aload_n 0, 1) := by decide +kernel
theorem dX11_giveUp_1 : decode cX11_giveUp 1 = .ok (.getfield 68, 3) := by decide +kernel
theorem dX11_giveUp_4 : decode cX11_giveUp 4 = .ok (.aload_n 0, 1) := by decide +kernel
theorem dX11_giveUp_5 : decode cX11_giveUp 5 = .ok (.getfield 12, 3) := by decide +kernel
theorem dX11_giveUp_8 : decode cX11_giveUp 8 = .ok (.invokevirtual 214, 3) := by decide +kernel
theorem dX11_giveUp_11 : decode cX11_giveUp 11 = .ok (.aload_n 0, 1) := by decide +kernel
theorem dX11_giveUp_12 : decode cX11_giveUp 12 = .ok (.getfield 68, 3) := by decide +kernel
theorem dX11_giveUp_15 : decode cX11_giveUp 15 = .ok (.invokevirtual 223, 3) := by decide +kernel
theorem dX11_giveUp_18 : decode cX11_giveUp 18 = .ok (.ireturn, 1) := by decide +kernel
theorem dX11_share_0 : decode cX11_share 0 = .ok (.aload_n 0, 1) := by decide +kernel
theorem dX11_share_1 : decode cX11_share 1 = .ok (.getfield 12, 3) := by decide +kernel
theorem dX11_share_4 : decode cX11_share 4 = .ok (.iload_n 1, 1) := by decide +kernel
theorem dX11_share_5 : decode cX11_share 5 = .ok (.invokevirtual 98, 3) := by decide +kernel
theorem dX11_share_8 : decode cX11_share 8 = .ok (.ifCond .ne 10, 3) := by decide +kernel
theorem dX11_share_11 : decode cX11_share 11 = .ok (.aload_n 0, 1) := by decide +kernel
theorem dX11_share_12 : decode cX11_share 12 = .ok (.bipush (-2), 2) := by decide +kernel
theorem dX11_share_14 : decode cX11_share 14 = .ok (.invokevirtual 83, 3) := by decide +kernel
theorem dX11_share_17 : decode cX11_share 17 = .ok (.ireturn, 1) := by decide +kernel
theorem dX11_share_18 : decode cX11_share 18 = .ok (.aload_n 0, 1) := by decide +kernel
theorem dX11_share_19 : decode cX11_share 19 = .ok (.getfield 61, 3) := by decide +kernel
theorem dX11_share_22 : decode cX11_share 22 = .ok (.aload_n 0, 1) := by decide +kernel
theorem dX11_share_23 : decode cX11_share 23 = .ok (.getfield 12, 3) := by decide +kernel
theorem dX11_share_26 : decode cX11_share 26 = .ok (.invokevirtual 226, 3) := by decide +kernel
theorem dX11_share_29 : decode cX11_share 29 = .ok (.aload_n 0, 1) := by decide +kernel
theorem dX11_share_30 : decode cX11_share 30 = .ok (.getfield 61, 3) := by decide +kernel
theorem dX11_share_33 : decode cX11_share 33 = .ok (.aload_n 0, 1) := by decide +kernel
theorem dX11_share_34 : decode cX11_share 34 = .ok (.getfield 12, 3) := by decide +kernel
theorem dX11_share_37 : decode cX11_share 37 = .ok (.getfield 87, 3) := by decide +kernel
theorem dX11_share_40 : decode cX11_share 40 = .ok (.iload_n 1, 1) := by decide +kernel
theorem dX11_share_41 : decode cX11_share 41 = .ok (.invokevirtual 229, 3) := by decide +kernel
theorem dX11_share_44 : decode cX11_share 44 = .ok (.aload_n 0, 1) := by decide +kernel
theorem dX11_share_45 : decode cX11_share 45 = .ok (.aload_n 0, 1) := by decide +kernel
theorem dX11_share_46 : decode cX11_share 46 = .ok (.getfield 61, 3) := by decide +kernel
theorem dX11_share_49 : decode cX11_share 49 = .ok (.getfield 232, 3) := by decide +kernel
theorem dX11_share_52 : decode cX11_share 52 = .ok (.aload_n 0, 1) := by decide +kernel
theorem dX11_share_53 : decode cX11_share 53 = .ok (.getfield 61, 3) := by decide +kernel
theorem dX11_share_56 : decode cX11_share 56 = .ok (.getfield 235, 3) := by decide +kernel
theorem dX11_share_59 : decode cX11_share 59 = .ok (.invokevirtual 238, 3) := by decide +kernel
theorem dX11_share_62 : decode cX11_share 62 = .ok (.iconst 1, 1) := by decide +kernel
theorem dX11_share_63 : decode cX11_share 63 = .ok (.ireturn, 1) := by decide +kernel
theorem dX11_part_0 : decode cX11_part 0 = .ok (.iload_n 1, 1) := by decide +kernel
theorem dX11_part_1 : decode cX11_part 1 = .ok (.iconst 0, 1) := by decide +kernel
theorem dX11_part_2 : decode cX11_part 2 = .ok (.iconst 1, 1) := by decide +kernel
theorem dX11_part_3 : decode cX11_part 3 = .ok (.invokestatic 79, 3) := by decide +kernel
theorem dX11_part_6 : decode cX11_part 6 = .ok (.ifCond .ne 12, 3) := by decide +kernel
theorem dX11_part_9 : decode cX11_part 9 = .ok (.aload_n 0, 1) := by decide +kernel
theorem dX11_part_10 : decode cX11_part 10 = .ok (.sipush (-1000), 3) := by decide +kernel
theorem dX11_part_13 : decode cX11_part 13 = .ok (.invokevirtual 83, 3) := by decide +kernel
theorem dX11_part_16 : decode cX11_part 16 = .ok (.i2l, 1) := by decide +kernel
theorem dX11_part_17 : decode cX11_part 17 = .ok (.lreturn, 1) := by decide +kernel
theorem dX11_part_18 : decode cX11_part 18 = .ok (.iload_n 1, 1) := by decide +kernel
theorem dX11_part_19 : decode cX11_part 19 = .ok (.ifCond .ne 10, 3) := by decide +kernel
theorem dX11_part_22 : decode cX11_part 22 = .ok (.aload_n 0, 1) := by decide +kernel
theorem dX11_part_23 : decode cX11_part 23 = .ok (.getfield 28, 3) := by decide +kernel
theorem dX11_part_26 : decode cX11_part 26 = .ok (.goto 7, 3) := by decide +kernel
theorem dX11_part_29 : decode cX11_part 29 = .ok (.aload_n 0, 1) := by decide +kernel
theorem dX11_part_30 : decode cX11_part 30 = .ok (.getfield 32, 3) := by decide +kernel
theorem dX11_part_33 : decode cX11_part 33 = .ok (.lreturn, 1) := by decide +kernel
theorem dX11_image_0 : decode cX11_image 0 = .ok (.iload_n 1, 1) := by decide +kernel
theorem dX11_image_1 : decode cX11_image 1 = .ok (.iconst 0, 1) := by decide +kernel
theorem dX11_image_2 : decode cX11_image 2 = .ok (.iconst 1, 1) := by decide +kernel
theorem dX11_image_3 : decode cX11_image 3 = .ok (.invokestatic 79, 3) := by decide +kernel
theorem dX11_image_6 : decode cX11_image 6 = .ok (.ifCond .ne 10, 3) := by decide +kernel
theorem dX11_image_9 : decode cX11_image 9 = .ok (.aload_n 0, 1) := by decide +kernel
theorem dX11_image_10 : decode cX11_image 10 = .ok (.bipush (-2), 2) := by decide +kernel
theorem dX11_image_12 : decode cX11_image 12 = .ok (.invokevirtual 83, 3) := by decide +kernel
theorem dX11_image_15 : decode cX11_image 15 = .ok (.ireturn, 1) := by decide +kernel
theorem dX11_image_16 : decode cX11_image 16 = .ok (.aload_n 0, 1) := by decide +kernel
theorem dX11_image_17 : decode cX11_image 17 = .ok (.getfield 16, 3) := by decide +kernel
theorem dX11_image_20 : decode cX11_image 20 = .ok (.iload_n 1, 1) := by decide +kernel
theorem dX11_image_21 : decode cX11_image 21 = .ok (.aaload, 1) := by decide +kernel
theorem dX11_image_22 : decode cX11_image 22 = .ok (.ifnonnull 16, 3) := by decide +kernel
theorem dX11_image_25 : decode cX11_image 25 = .ok (.aload_n 0, 1) := by decide +kernel
theorem dX11_image_26 : decode cX11_image 26 = .ok (.getfield 16, 3) := by decide +kernel
theorem dX11_image_29 : decode cX11_image 29 = .ok (.iload_n 1, 1) := by decide +kernel
theorem dX11_image_30 : decode cX11_image 30 = .ok (.new 9, 3) := by decide +kernel
theorem dX11_image_33 : decode cX11_image 33 = .ok (.dup, 1) := by decide +kernel
theorem dX11_image_34 : decode cX11_image 34 = .ok (.invokespecial 11, 3) := by decide +kernel
theorem dX11_image_37 : decode cX11_image 37 = .ok (.aastore, 1) := by decide +kernel
theorem dX11_image_38 : decode cX11_image 38 = .ok (.aload_n 0, 1) := by decide +kernel
theorem dX11_image_39 : decode cX11_image 39 = .ok (.getfield 16, 3) := by decide +kernel
theorem dX11_image_42 : decode cX11_image 42 = .ok (.iload_n 1, 1) := by decide +kernel
theorem dX11_image_43 : decode cX11_image 43 = .ok (.aaload, 1) := by decide +kernel
theorem dX11_image_44 : decode cX11_image 44 = .ok (.aload_n 0, 1) := by decide +kernel
theorem dX11_image_45 : decode cX11_image 45 = .ok (.getfield 12, 3) := by decide +kernel
theorem dX11_image_48 : decode cX11_image 48 = .ok (.invokevirtual 125, 3) := by decide +kernel
theorem dX11_image_51 : decode cX11_image 51 = .ok (.iconst 1, 1) := by decide +kernel
theorem dX11_image_52 : decode cX11_image 52 = .ok (.ireturn, 1) := by decide +kernel
theorem dX11_from_0 : decode cX11_from 0 = .ok (.iload_n 1, 1) := by decide +kernel
theorem dX11_from_1 : decode cX11_from 1 = .ok (.iconst 0, 1) := by decide +kernel
theorem dX11_from_2 : decode cX11_from 2 = .ok (.iconst 1, 1) := by decide +kernel
theorem dX11_from_3 : decode cX11_from 3 = .ok (.invokestatic 79, 3) := by decide +kernel
theorem dX11_from_6 : decode cX11_from 6 = .ok (.ifCond .ne 10, 3) := by decide +kernel
theorem dX11_from_9 : decode cX11_from 9 = .ok (.aload_n 0, 1) := by decide +kernel
theorem dX11_from_10 : decode cX11_from 10 = .ok (.bipush (-2), 2) := by decide +kernel
theorem dX11_from_12 : decode cX11_from 12 = .ok (.invokevirtual 83, 3) := by decide +kernel
theorem dX11_from_15 : decode cX11_from 15 = .ok (.ireturn, 1) := by decide +kernel
theorem dX11_from_16 : decode cX11_from 16 = .ok (.aload_n 0, 1) := by decide +kernel
theorem dX11_from_17 : decode cX11_from 17 = .ok (.getfield 16, 3) := by decide +kernel
theorem dX11_from_20 : decode cX11_from 20 = .ok (.iload_n 1, 1) := by decide +kernel
theorem dX11_from_21 : decode cX11_from 21 = .ok (.aaload, 1) := by decide +kernel
theorem dX11_from_22 : decode cX11_from 22 = .ok (.astore_n 2, 1) := by decide +kernel
theorem dX11_from_23 : decode cX11_from 23 = .ok (.aload_n 2, 1) := by decide +kernel
theorem dX11_from_24 : decode cX11_from 24 = .ok (.ifnonnull 8, 3) := by decide +kernel
theorem dX11_from_27 : decode cX11_from 27 = .ok (.aload_n 0, 1) := by decide +kernel
theorem dX11_from_28 : decode cX11_from 28 = .ok (.invokevirtual 109, 3) := by decide +kernel
theorem dX11_from_31 : decode cX11_from 31 = .ok (.ireturn, 1) := by decide +kernel
theorem dX11_from_32 : decode cX11_from 32 = .ok (.aload_n 0, 1) := by decide +kernel
theorem dX11_from_33 : decode cX11_from 33 = .ok (.getfield 12, 3) := by decide +kernel
theorem dX11_from_36 : decode cX11_from 36 = .ok (.aload_n 2, 1) := by decide +kernel
theorem dX11_from_37 : decode cX11_from 37 = .ok (.invokevirtual 125, 3) := by decide +kernel
theorem dX11_from_40 : decode cX11_from 40 = .ok (.iconst 1, 1) := by decide +kernel
theorem dX11_from_41 : decode cX11_from 41 = .ok (.ireturn, 1) := by decide +kernel
theorem dX11_status_0 : decode cX11_status 0 = .ok (.iload_n 1, 1) := by decide +kernel
theorem dX11_status_1 : decode cX11_status 1 = .ok (.tableswitch 42 0 2 #[27, 32, 37], 27) := by decide +kernel
theorem dX11_status_28 : decode cX11_status 28 = .ok (.aload_n 0, 1) := by decide +kernel
theorem dX11_status_29 : decode cX11_status 29 = .ok (.getfield 35, 3) := by decide +kernel
theorem dX11_status_32 : decode cX11_status 32 = .ok (.ireturn, 1) := by decide +kernel
theorem dX11_status_33 : decode cX11_status 33 = .ok (.aload_n 0, 1) := by decide +kernel
theorem dX11_status_34 : decode cX11_status 34 = .ok (.getfield 38, 3) := by decide +kernel
theorem dX11_status_37 : decode cX11_status 37 = .ok (.ireturn, 1) := by decide +kernel
theorem dX11_status_38 : decode cX11_status 38 = .ok (.aload_n 0, 1) := by decide +kernel
theorem dX11_status_39 : decode cX11_status 39 = .ok (.getfield 41, 3) := by decide +kernel
theorem dX11_status_42 : decode cX11_status 42 = .ok (.ireturn, 1) := by decide +kernel
theorem dX11_status_43 : decode cX11_status 43 = .ok (.aload_n 0, 1) := by decide +kernel
theorem dX11_status_44 : decode cX11_status 44 = .ok (.iconst (-1), 1) := by decide +kernel
theorem dX11_status_45 : decode cX11_status 45 = .ok (.invokevirtual 83, 3) := by decide +kernel
theorem dX11_status_48 : decode cX11_status 48 = .ok (.ireturn, 1) := by decide +kernel
theorem dX11_count_0 : decode cX11_count 0 = .ok (.iload_n 1, 1) := by decide +kernel
theorem dX11_count_1 : decode cX11_count 1 = .ok (.iconst 0, 1) := by decide +kernel
theorem dX11_count_2 : decode cX11_count 2 = .ok (.bipush 6, 2) := by decide +kernel
theorem dX11_count_4 : decode cX11_count 4 = .ok (.invokestatic 79, 3) := by decide +kernel
theorem dX11_count_7 : decode cX11_count 7 = .ok (.ifCond .ne 10, 3) := by decide +kernel
theorem dX11_count_10 : decode cX11_count 10 = .ok (.aload_n 0, 1) := by decide +kernel
theorem dX11_count_11 : decode cX11_count 11 = .ok (.bipush (-2), 2) := by decide +kernel
theorem dX11_count_13 : decode cX11_count 13 = .ok (.invokevirtual 83, 3) := by decide +kernel
theorem dX11_count_16 : decode cX11_count 16 = .ok (.ireturn, 1) := by decide +kernel
theorem dX11_count_17 : decode cX11_count 17 = .ok (.aload_n 0, 1) := by decide +kernel
theorem dX11_count_18 : decode cX11_count 18 = .ok (.iload_n 1, 1) := by decide +kernel
theorem dX11_count_19 : decode cX11_count 19 = .ok (.invokevirtual 241, 3) := by decide +kernel
theorem dX11_count_22 : decode cX11_count 22 = .ok (.ireturn, 1) := by decide +kernel
theorem dX11_digest_0 : decode cX11_digest 0 = .ok (.ldc2_w 244, 3) := by decide +kernel
theorem dX11_digest_3 : decode cX11_digest 3 = .ok (.lstore_n 1, 1) := by decide +kernel
theorem dX11_digest_4 : decode cX11_digest 4 = .ok (.iconst 0, 1) := by decide +kernel
theorem dX11_digest_5 : decode cX11_digest 5 = .ok (.istore_n 3, 1) := by decide +kernel
theorem dX11_digest_6 : decode cX11_digest 6 = .ok (.iload_n 3, 1) := by decide +kernel
theorem dX11_digest_7 : decode cX11_digest 7 = .ok (.bipush 6, 2) := by decide +kernel
theorem dX11_digest_9 : decode cX11_digest 9 = .ok (.if_icmp .gt 22, 3) := by decide +kernel
theorem dX11_digest_12 : decode cX11_digest 12 = .ok (.ldc2_w 246, 3) := by decide +kernel
theorem dX11_digest_15 : decode cX11_digest 15 = .ok (.lload_n 1, 1) := by decide +kernel
theorem dX11_digest_16 : decode cX11_digest 16 = .ok (.lmul, 1) := by decide +kernel
theorem dX11_digest_17 : decode cX11_digest 17 = .ok (.aload_n 0, 1) := by decide +kernel
theorem dX11_digest_18 : decode cX11_digest 18 = .ok (.iload_n 3, 1) := by decide +kernel
theorem dX11_digest_19 : decode cX11_digest 19 = .ok (.invokevirtual 241, 3) := by decide +kernel
theorem dX11_digest_22 : decode cX11_digest 22 = .ok (.i2l, 1) := by decide +kernel
theorem dX11_digest_23 : decode cX11_digest 23 = .ok (.ladd, 1) := by decide +kernel
theorem dX11_digest_24 : decode cX11_digest 24 = .ok (.lstore_n 1, 1) := by decide +kernel
theorem dX11_digest_25 : decode cX11_digest 25 = .ok (.iinc 3 1, 3) := by decide +kernel
theorem dX11_digest_28 : decode cX11_digest 28 = .ok (.goto (-22), 3) := by decide +kernel
theorem dX11_digest_31 : decode cX11_digest 31 = .ok (.aload_n 0, 1) := by decide +kernel
theorem dX11_digest_32 : decode cX11_digest 32 = .ok (.getfield 12, 3) := by decide +kernel
theorem dX11_digest_35 : decode cX11_digest 35 = .ok (.lload_n 1, 1) := by decide +kernel
theorem dX11_digest_36 : decode cX11_digest 36 = .ok (.invokevirtual 248, 3) := by decide +kernel
theorem dX11_digest_39 : decode cX11_digest 39 = .ok (.lstore_n 1, 1) := by decide +kernel
theorem dX11_digest_40 : decode cX11_digest 40 = .ok (.ldc2_w 246, 3) := by decide +kernel
theorem dX11_digest_43 : decode cX11_digest 43 = .ok (.lload_n 1, 1) := by decide +kernel
theorem dX11_digest_44 : decode cX11_digest 44 = .ok (.lmul, 1) := by decide +kernel
theorem dX11_digest_45 : decode cX11_digest 45 = .ok (.aload_n 0, 1) := by decide +kernel
theorem dX11_digest_46 : decode cX11_digest 46 = .ok (.getfield 28, 3) := by decide +kernel
theorem dX11_digest_49 : decode cX11_digest 49 = .ok (.ladd, 1) := by decide +kernel
theorem dX11_digest_50 : decode cX11_digest 50 = .ok (.lstore_n 1, 1) := by decide +kernel
theorem dX11_digest_51 : decode cX11_digest 51 = .ok (.ldc2_w 246, 3) := by decide +kernel
theorem dX11_digest_54 : decode cX11_digest 54 = .ok (.lload_n 1, 1) := by decide +kernel
theorem dX11_digest_55 : decode cX11_digest 55 = .ok (.lmul, 1) := by decide +kernel
theorem dX11_digest_56 : decode cX11_digest 56 = .ok (.aload_n 0, 1) := by decide +kernel
theorem dX11_digest_57 : decode cX11_digest 57 = .ok (.getfield 32, 3) := by decide +kernel
theorem dX11_digest_60 : decode cX11_digest 60 = .ok (.ladd, 1) := by decide +kernel
theorem dX11_digest_61 : decode cX11_digest 61 = .ok (.lreturn, 1) := by decide +kernel
theorem dX11_within_0 : decode cX11_within 0 = .ok (.iload_n 0, 1) := by decide +kernel
theorem dX11_within_1 : decode cX11_within 1 = .ok (.iload_n 1, 1) := by decide +kernel
theorem dX11_within_2 : decode cX11_within 2 = .ok (.if_icmp .lt 12, 3) := by decide +kernel
theorem dX11_within_5 : decode cX11_within 5 = .ok (.iload_n 0, 1) := by decide +kernel
theorem dX11_within_6 : decode cX11_within 6 = .ok (.iload_n 2, 1) := by decide +kernel
theorem dX11_within_7 : decode cX11_within 7 = .ok (.if_icmp .gt 7, 3) := by decide +kernel
theorem dX11_within_10 : decode cX11_within 10 = .ok (.iconst 1, 1) := by decide +kernel
theorem dX11_within_11 : decode cX11_within 11 = .ok (.goto 4, 3) := by decide +kernel
theorem dX11_within_14 : decode cX11_within 14 = .ok (.iconst 0, 1) := by decide +kernel
theorem dX11_within_15 : decode cX11_within 15 = .ok (.ireturn, 1) := by decide +kernel
theorem dX11_has_0 : decode cX11_has 0 = .ok (.iload_n 0, 1) := by decide +kernel
theorem dX11_has_1 : decode cX11_has 1 = .ok (.iload_n 1, 1) := by decide +kernel
theorem dX11_has_2 : decode cX11_has 2 = .ok (.ishr, 1) := by decide +kernel
theorem dX11_has_3 : decode cX11_has 3 = .ok (.iconst 1, 1) := by decide +kernel
theorem dX11_has_4 : decode cX11_has 4 = .ok (.iand, 1) := by decide +kernel
theorem dX11_has_5 : decode cX11_has 5 = .ok (.ifCond .eq 7, 3) := by decide +kernel
theorem dX11_has_8 : decode cX11_has 8 = .ok (.iconst 1, 1) := by decide +kernel
theorem dX11_has_9 : decode cX11_has 9 = .ok (.goto 4, 3) := by decide +kernel
theorem dX11_has_12 : decode cX11_has 12 = .ok (.iconst 0, 1) := by decide +kernel
theorem dX11_has_13 : decode cX11_has 13 = .ok (.ireturn, 1) := by decide +kernel
theorem dX11_isPull_0 : decode cX11_isPull 0 = .ok (.aload_n 0, 1) := by decide +kernel
theorem dX11_isPull_1 : decode cX11_isPull 1 = .ok (.getfield 12, 3) := by decide +kernel
theorem dX11_isPull_4 : decode cX11_isPull 4 = .ok (.iload_n 1, 1) := by decide +kernel
theorem dX11_isPull_5 : decode cX11_isPull 5 = .ok (.invokevirtual 98, 3) := by decide +kernel
theorem dX11_isPull_8 : decode cX11_isPull 8 = .ok (.ifCond .eq 17, 3) := by decide +kernel
theorem dX11_isPull_11 : decode cX11_isPull 11 = .ok (.iload_n 2, 1) := by decide +kernel
theorem dX11_isPull_12 : decode cX11_isPull 12 = .ok (.iconst 0, 1) := by decide +kernel
theorem dX11_isPull_13 : decode cX11_isPull 13 = .ok (.bipush 20, 2) := by decide +kernel
theorem dX11_isPull_15 : decode cX11_isPull 15 = .ok (.invokestatic 79, 3) := by decide +kernel
theorem dX11_isPull_18 : decode cX11_isPull 18 = .ok (.ifCond .eq 7, 3) := by decide +kernel
theorem dX11_isPull_21 : decode cX11_isPull 21 = .ok (.iconst 1, 1) := by decide +kernel
theorem dX11_isPull_22 : decode cX11_isPull 22 = .ok (.goto 4, 3) := by decide +kernel
theorem dX11_isPull_25 : decode cX11_isPull 25 = .ok (.iconst 0, 1) := by decide +kernel
theorem dX11_isPull_26 : decode cX11_isPull 26 = .ok (.ireturn, 1) := by decide +kernel
theorem dX11_bad_0 : decode cX11_bad 0 = .ok (.aload_n 0, 1) := by decide +kernel
theorem dX11_bad_1 : decode cX11_bad 1 = .ok (.dup, 1) := by decide +kernel
theorem dX11_bad_2 : decode cX11_bad 2 = .ok (.getfield 35, 3) := by decide +kernel
theorem dX11_bad_5 : decode cX11_bad 5 = .ok (.iconst 1, 1) := by decide +kernel
theorem dX11_bad_6 : decode cX11_bad 6 = .ok (.iadd, 1) := by decide +kernel
theorem dX11_bad_7 : decode cX11_bad 7 = .ok (.putfield 35, 3) := by decide +kernel
theorem dX11_bad_10 : decode cX11_bad 10 = .ok (.iload_n 1, 1) := by decide +kernel
theorem dX11_bad_11 : decode cX11_bad 11 = .ok (.ireturn, 1) := by decide +kernel
theorem dX11_refusedNow_0 : decode cX11_refusedNow 0 = .ok (.aload_n 0, 1) := by decide +kernel
theorem dX11_refusedNow_1 : decode cX11_refusedNow 1 = .ok (.dup, 1) := by decide +kernel
theorem dX11_refusedNow_2 : decode cX11_refusedNow 2 = .ok (.getfield 38, 3) := by decide +kernel
theorem dX11_refusedNow_5 : decode cX11_refusedNow 5 = .ok (.iconst 1, 1) := by decide +kernel
theorem dX11_refusedNow_6 : decode cX11_refusedNow 6 = .ok (.iadd, 1) := by decide +kernel
theorem dX11_refusedNow_7 : decode cX11_refusedNow 7 = .ok (.putfield 38, 3) := by decide +kernel
theorem dX11_refusedNow_10 : decode cX11_refusedNow 10 = .ok (.bipush (-3), 2) := by decide +kernel
theorem dX11_refusedNow_12 : decode cX11_refusedNow 12 = .ok (.ireturn, 1) := by decide +kernel
theorem dX11_tooMany_0 : decode cX11_tooMany 0 = .ok (.aload_n 0, 1) := by decide +kernel
theorem dX11_tooMany_1 : decode cX11_tooMany 1 = .ok (.dup, 1) := by decide +kernel
theorem dX11_tooMany_2 : decode cX11_tooMany 2 = .ok (.getfield 41, 3) := by decide +kernel
theorem dX11_tooMany_5 : decode cX11_tooMany 5 = .ok (.iconst 1, 1) := by decide +kernel
theorem dX11_tooMany_6 : decode cX11_tooMany 6 = .ok (.iadd, 1) := by decide +kernel
theorem dX11_tooMany_7 : decode cX11_tooMany 7 = .ok (.putfield 41, 3) := by decide +kernel
theorem dX11_tooMany_10 : decode cX11_tooMany 10 = .ok (.bipush (-4), 2) := by decide +kernel
theorem dX11_tooMany_12 : decode cX11_tooMany 12 = .ok (.ireturn, 1) := by decide +kernel
theorem dX11_doSwing_0 : decode cX11_doSwing 0 = .ok (.aload_n 0, 1) := by decide +kernel
theorem dX11_doSwing_1 : decode cX11_doSwing 1 = .ok (.getfield 12, 3) := by decide +kernel
theorem dX11_doSwing_4 : decode cX11_doSwing 4 = .ok (.invokevirtual 252, 3) := by decide +kernel
theorem dX11_doSwing_7 : decode cX11_doSwing 7 = .ok (.aload_n 0, 1) := by decide +kernel
theorem dX11_doSwing_8 : decode cX11_doSwing 8 = .ok (.getfield 12, 3) := by decide +kernel
theorem dX11_doSwing_11 : decode cX11_doSwing 11 = .ok (.aload_n 0, 1) := by decide +kernel
theorem dX11_doSwing_12 : decode cX11_doSwing 12 = .ok (.getfield 52, 3) := by decide +kernel
theorem dX11_doSwing_15 : decode cX11_doSwing 15 = .ok (.aload_n 0, 1) := by decide +kernel
theorem dX11_doSwing_16 : decode cX11_doSwing 16 = .ok (.getfield 12, 3) := by decide +kernel
theorem dX11_doSwing_19 : decode cX11_doSwing 19 = .ok (.getfield 142, 3) := by decide +kernel
theorem dX11_doSwing_22 : decode cX11_doSwing 22 = .ok (.invokevirtual 145, 3) := by decide +kernel
theorem dX11_doSwing_25 : decode cX11_doSwing 25 = .ok (.putfield 142, 3) := by decide +kernel
theorem dX11_doSwing_28 : decode cX11_doSwing 28 = .ok (.aload_n 0, 1) := by decide +kernel
theorem dX11_doSwing_29 : decode cX11_doSwing 29 = .ok (.getfield 52, 3) := by decide +kernel
theorem dX11_doSwing_32 : decode cX11_doSwing 32 = .ok (.invokevirtual 255, 3) := by decide +kernel
theorem dX11_doSwing_35 : decode cX11_doSwing 35 = .ok (.ireturn, 1) := by decide +kernel
theorem dX11_howMany_0 : decode cX11_howMany 0 = .ok (.iload_n 1, 1) := by decide +kernel
theorem dX11_howMany_1 : decode cX11_howMany 1 = .ok (.tableswitch 87 0 5 #[39, 47, 58, 66, 74, 82], 39) := by decide +kernel
theorem dX11_howMany_40 : decode cX11_howMany 40 = .ok (.aload_n 0, 1) := by decide +kernel
theorem dX11_howMany_41 : decode cX11_howMany 41 = .ok (.getfield 12, 3) := by decide +kernel
theorem dX11_howMany_44 : decode cX11_howMany 44 = .ok (.getfield 87, 3) := by decide +kernel
theorem dX11_howMany_47 : decode cX11_howMany 47 = .ok (.ireturn, 1) := by decide +kernel
theorem dX11_howMany_48 : decode cX11_howMany 48 = .ok (.aload_n 0, 1) := by decide +kernel
theorem dX11_howMany_49 : decode cX11_howMany 49 = .ok (.getfield 12, 3) := by decide +kernel
theorem dX11_howMany_52 : decode cX11_howMany 52 = .ok (.getfield 102, 3) := by decide +kernel
theorem dX11_howMany_55 : decode cX11_howMany 55 = .ok (.invokestatic 258, 3) := by decide +kernel
theorem dX11_howMany_58 : decode cX11_howMany 58 = .ok (.ireturn, 1) := by decide +kernel
theorem dX11_howMany_59 : decode cX11_howMany 59 = .ok (.aload_n 0, 1) := by decide +kernel
theorem dX11_howMany_60 : decode cX11_howMany 60 = .ok (.getfield 12, 3) := by decide +kernel
theorem dX11_howMany_63 : decode cX11_howMany 63 = .ok (.getfield 158, 3) := by decide +kernel
theorem dX11_howMany_66 : decode cX11_howMany 66 = .ok (.ireturn, 1) := by decide +kernel
theorem dX11_howMany_67 : decode cX11_howMany 67 = .ok (.aload_n 0, 1) := by decide +kernel
theorem dX11_howMany_68 : decode cX11_howMany 68 = .ok (.getfield 12, 3) := by decide +kernel
theorem dX11_howMany_71 : decode cX11_howMany 71 = .ok (.getfield 207, 3) := by decide +kernel
theorem dX11_howMany_74 : decode cX11_howMany 74 = .ok (.ireturn, 1) := by decide +kernel
theorem dX11_howMany_75 : decode cX11_howMany 75 = .ok (.aload_n 0, 1) := by decide +kernel
theorem dX11_howMany_76 : decode cX11_howMany 76 = .ok (.getfield 12, 3) := by decide +kernel
theorem dX11_howMany_79 : decode cX11_howMany 79 = .ok (.getfield 152, 3) := by decide +kernel
theorem dX11_howMany_82 : decode cX11_howMany 82 = .ok (.ireturn, 1) := by decide +kernel
theorem dX11_howMany_83 : decode cX11_howMany 83 = .ok (.aload_n 0, 1) := by decide +kernel
theorem dX11_howMany_84 : decode cX11_howMany 84 = .ok (.getfield 24, 3) := by decide +kernel
theorem dX11_howMany_87 : decode cX11_howMany 87 = .ok (.ireturn, 1) := by decide +kernel
theorem dX11_howMany_88 : decode cX11_howMany 88 = .ok (.aload_n 0, 1) := by decide +kernel
theorem dX11_howMany_89 : decode cX11_howMany 89 = .ok (.getfield 12, 3) := by decide +kernel
theorem dX11_howMany_92 : decode cX11_howMany 92 = .ok (.getfield 112, 3) := by decide +kernel
theorem dX11_howMany_95 : decode cX11_howMany 95 = .ok (.ireturn, 1) := by decide +kernel
theorem dX11_keepFraction_0 : decode cX11_keepFraction 0 = .ok (.iload_n 1, 1) := by decide +kernel
theorem dX11_keepFraction_1 : decode cX11_keepFraction 1 = .ok (.invokestatic 263, 3) := by decide +kernel
theorem dX11_keepFraction_4 : decode cX11_keepFraction 4 = .ok (.istore_n 3, 1) := by decide +kernel
theorem dX11_keepFraction_5 : decode cX11_keepFraction 5 = .ok (.iload_n 2, 1) := by decide +kernel
theorem dX11_keepFraction_6 : decode cX11_keepFraction 6 = .ok (.istore 4, 2) := by decide +kernel
theorem dX11_keepFraction_8 : decode cX11_keepFraction 8 = .ok (.iconst 0, 1) := by decide +kernel
theorem dX11_keepFraction_9 : decode cX11_keepFraction 9 = .ok (.istore 5, 2) := by decide +kernel
theorem dX11_keepFraction_11 : decode cX11_keepFraction 11 = .ok (.iload 5, 2) := by decide +kernel
theorem dX11_keepFraction_13 : decode cX11_keepFraction 13 = .ok (.bipush 64, 2) := by decide +kernel
theorem dX11_keepFraction_15 : decode cX11_keepFraction 15 = .ok (.if_icmp .ge 27, 3) := by decide +kernel
theorem dX11_keepFraction_18 : decode cX11_keepFraction 18 = .ok (.iload 4, 2) := by decide +kernel
theorem dX11_keepFraction_20 : decode cX11_keepFraction 20 = .ok (.ifCond .eq 22, 3) := by decide +kernel
theorem dX11_keepFraction_23 : decode cX11_keepFraction 23 = .ok (.iload_n 3, 1) := by decide +kernel
theorem dX11_keepFraction_24 : decode cX11_keepFraction 24 = .ok (.iload 4, 2) := by decide +kernel
theorem dX11_keepFraction_26 : decode cX11_keepFraction 26 = .ok (.irem, 1) := by decide +kernel
theorem dX11_keepFraction_27 : decode cX11_keepFraction 27 = .ok (.istore 6, 2) := by decide +kernel
theorem dX11_keepFraction_29 : decode cX11_keepFraction 29 = .ok (.iload 4, 2) := by decide +kernel
theorem dX11_keepFraction_31 : decode cX11_keepFraction 31 = .ok (.istore_n 3, 1) := by decide +kernel
theorem dX11_keepFraction_32 : decode cX11_keepFraction 32 = .ok (.iload 6, 2) := by decide +kernel
theorem dX11_keepFraction_34 : decode cX11_keepFraction 34 = .ok (.istore 4, 2) := by decide +kernel
theorem dX11_keepFraction_36 : decode cX11_keepFraction 36 = .ok (.iinc 5 1, 3) := by decide +kernel
theorem dX11_keepFraction_39 : decode cX11_keepFraction 39 = .ok (.goto (-28), 3) := by decide +kernel
theorem dX11_keepFraction_42 : decode cX11_keepFraction 42 = .ok (.iload_n 3, 1) := by decide +kernel
theorem dX11_keepFraction_43 : decode cX11_keepFraction 43 = .ok (.ifCond .ne 4, 3) := by decide +kernel
theorem dX11_keepFraction_46 : decode cX11_keepFraction 46 = .ok (.return_, 1) := by decide +kernel
theorem dX11_keepFraction_47 : decode cX11_keepFraction 47 = .ok (.aload_n 0, 1) := by decide +kernel
theorem dX11_keepFraction_48 : decode cX11_keepFraction 48 = .ok (.iload_n 1, 1) := by decide +kernel
theorem dX11_keepFraction_49 : decode cX11_keepFraction 49 = .ok (.iload_n 3, 1) := by decide +kernel
theorem dX11_keepFraction_50 : decode cX11_keepFraction 50 = .ok (.idiv, 1) := by decide +kernel
theorem dX11_keepFraction_51 : decode cX11_keepFraction 51 = .ok (.i2l, 1) := by decide +kernel
theorem dX11_keepFraction_52 : decode cX11_keepFraction 52 = .ok (.putfield 28, 3) := by decide +kernel
theorem dX11_keepFraction_55 : decode cX11_keepFraction 55 = .ok (.aload_n 0, 1) := by decide +kernel
theorem dX11_keepFraction_56 : decode cX11_keepFraction 56 = .ok (.iload_n 2, 1) := by decide +kernel
theorem dX11_keepFraction_57 : decode cX11_keepFraction 57 = .ok (.iload_n 3, 1) := by decide +kernel
theorem dX11_keepFraction_58 : decode cX11_keepFraction 58 = .ok (.idiv, 1) := by decide +kernel
theorem dX11_keepFraction_59 : decode cX11_keepFraction 59 = .ok (.i2l, 1) := by decide +kernel
theorem dX11_keepFraction_60 : decode cX11_keepFraction 60 = .ok (.putfield 32, 3) := by decide +kernel
theorem dX11_keepFraction_63 : decode cX11_keepFraction 63 = .ok (.return_, 1) := by decide +kernel
theorem dJ0_length_8abf5_0 : decode cJ0_length_8abf5 0 = .ok (.aload_n 0, 1) := by decide +kernel
theorem dJ0_length_8abf5_1 : decode cJ0_length_8abf5 1 = .ok (.getfield 9, 3) := by decide +kernel
theorem dJ0_length_8abf5_4 : decode cJ0_length_8abf5 4 = .ok (.arraylength, 1) := by decide +kernel
theorem dJ0_length_8abf5_5 : decode cJ0_length_8abf5 5 = .ok (.aload_n 0, 1) := by decide +kernel
theorem dJ0_length_8abf5_6 : decode cJ0_length_8abf5 6 = .ok (.invokevirtual 335, 3) := by decide +kernel
theorem dJ0_length_8abf5_9 : decode cJ0_length_8abf5 9 = .ok (.ishr, 1) := by decide +kernel
theorem dJ0_length_8abf5_10 : decode cJ0_length_8abf5 10 = .ok (.ireturn, 1) := by decide +kernel
theorem dJ0_charAt_5068e_0 : decode cJ0_charAt_5068e 0 = .ok (.aload_n 0, 1) := by decide +kernel
theorem dJ0_charAt_5068e_1 : decode cJ0_charAt_5068e 1 = .ok (.invokevirtual 492, 3) := by decide +kernel
theorem dJ0_charAt_5068e_4 : decode cJ0_charAt_5068e 4 = .ok (.ifCond .eq 12, 3) := by decide +kernel
theorem dJ0_charAt_5068e_7 : decode cJ0_charAt_5068e 7 = .ok (.aload_n 0, 1) := by decide +kernel
theorem dJ0_charAt_5068e_8 : decode cJ0_charAt_5068e 8 = .ok (.getfield 9, 3) := by decide +kernel
theorem dJ0_charAt_5068e_11 : decode cJ0_charAt_5068e 11 = .ok (.iload_n 1, 1) := by decide +kernel
theorem dJ0_charAt_5068e_12 : decode cJ0_charAt_5068e 12 = .ok (.invokestatic 495, 3) := by decide +kernel
theorem dJ0_charAt_5068e_15 : decode cJ0_charAt_5068e 15 = .ok (.ireturn, 1) := by decide +kernel
theorem dJ0_charAt_5068e_16 : decode cJ0_charAt_5068e 16 = .ok (.aload_n 0, 1) := by decide +kernel
theorem dJ0_charAt_5068e_17 : decode cJ0_charAt_5068e 17 = .ok (.getfield 9, 3) := by decide +kernel
theorem dJ0_charAt_5068e_20 : decode cJ0_charAt_5068e 20 = .ok (.iload_n 1, 1) := by decide +kernel
theorem dJ0_charAt_5068e_21 : decode cJ0_charAt_5068e 21 = .ok (.invokestatic 498, 3) := by decide +kernel
theorem dJ0_charAt_5068e_24 : decode cJ0_charAt_5068e 24 = .ok (.ireturn, 1) := by decide +kernel
theorem dJ0_coder_7d493_0 : decode cJ0_coder_7d493 0 = .ok (.getstatic 38, 3) := by decide +kernel
theorem dJ0_coder_7d493_3 : decode cJ0_coder_7d493 3 = .ok (.ifCond .eq 10, 3) := by decide +kernel
theorem dJ0_coder_7d493_6 : decode cJ0_coder_7d493 6 = .ok (.aload_n 0, 1) := by decide +kernel
theorem dJ0_coder_7d493_7 : decode cJ0_coder_7d493 7 = .ok (.getfield 15, 3) := by decide +kernel
theorem dJ0_coder_7d493_10 : decode cJ0_coder_7d493 10 = .ok (.goto 4, 3) := by decide +kernel
theorem dJ0_coder_7d493_13 : decode cJ0_coder_7d493 13 = .ok (.iconst 1, 1) := by decide +kernel
theorem dJ0_coder_7d493_14 : decode cJ0_coder_7d493 14 = .ok (.ireturn, 1) := by decide +kernel
theorem dJ0_isLatin1_aae02_0 : decode cJ0_isLatin1_aae02 0 = .ok (.getstatic 38, 3) := by decide +kernel
theorem dJ0_isLatin1_aae02_3 : decode cJ0_isLatin1_aae02 3 = .ok (.ifCond .eq 14, 3) := by decide +kernel
theorem dJ0_isLatin1_aae02_6 : decode cJ0_isLatin1_aae02 6 = .ok (.aload_n 0, 1) := by decide +kernel
theorem dJ0_isLatin1_aae02_7 : decode cJ0_isLatin1_aae02 7 = .ok (.getfield 15, 3) := by decide +kernel
theorem dJ0_isLatin1_aae02_10 : decode cJ0_isLatin1_aae02 10 = .ok (.ifCond .ne 7, 3) := by decide +kernel
theorem dJ0_isLatin1_aae02_13 : decode cJ0_isLatin1_aae02 13 = .ok (.iconst 1, 1) := by decide +kernel
theorem dJ0_isLatin1_aae02_14 : decode cJ0_isLatin1_aae02 14 = .ok (.goto 4, 3) := by decide +kernel
theorem dJ0_isLatin1_aae02_17 : decode cJ0_isLatin1_aae02 17 = .ok (.iconst 0, 1) := by decide +kernel
theorem dJ0_isLatin1_aae02_18 : decode cJ0_isLatin1_aae02 18 = .ok (.ireturn, 1) := by decide +kernel
theorem dJ0_checkIndex_df160_0 : decode cJ0_checkIndex_df160 0 = .ok (.iload_n 0, 1) := by decide +kernel
theorem dJ0_checkIndex_df160_1 : decode cJ0_checkIndex_df160 1 = .ok (.iload_n 1, 1) := by decide +kernel
theorem dJ0_checkIndex_df160_2 : decode cJ0_checkIndex_df160 2 = .ok (.getstatic 1053, 3) := by decide +kernel
theorem dJ0_checkIndex_df160_5 : decode cJ0_checkIndex_df160 5 = .ok (.invokestatic 1059, 3) := by decide +kernel
theorem dJ0_checkIndex_df160_8 : decode cJ0_checkIndex_df160 8 = .ok (.pop, 1) := by decide +kernel
theorem dJ0_checkIndex_df160_9 : decode cJ0_checkIndex_df160 9 = .ok (.return_, 1) := by decide +kernel
theorem dJ1_charAt_3b067_0 : decode cJ1_charAt_3b067 0 = .ok (.iload_n 1, 1) := by decide +kernel
theorem dJ1_charAt_3b067_1 : decode cJ1_charAt_3b067 1 = .ok (.aload_n 0, 1) := by decide +kernel
theorem dJ1_charAt_3b067_2 : decode cJ1_charAt_3b067 2 = .ok (.arraylength, 1) := by decide +kernel
theorem dJ1_charAt_3b067_3 : decode cJ1_charAt_3b067 3 = .ok (.invokestatic 9, 3) := by decide +kernel
theorem dJ1_charAt_3b067_6 : decode cJ1_charAt_3b067 6 = .ok (.aload_n 0, 1) := by decide +kernel
theorem dJ1_charAt_3b067_7 : decode cJ1_charAt_3b067 7 = .ok (.iload_n 1, 1) := by decide +kernel
theorem dJ1_charAt_3b067_8 : decode cJ1_charAt_3b067 8 = .ok (.baload, 1) := by decide +kernel
theorem dJ1_charAt_3b067_9 : decode cJ1_charAt_3b067 9 = .ok (.sipush 255, 3) := by decide +kernel
theorem dJ1_charAt_3b067_12 : decode cJ1_charAt_3b067 12 = .ok (.iand, 1) := by decide +kernel
theorem dJ1_charAt_3b067_13 : decode cJ1_charAt_3b067 13 = .ok (.i2c, 1) := by decide +kernel
theorem dJ1_charAt_3b067_14 : decode cJ1_charAt_3b067 14 = .ok (.ireturn, 1) := by decide +kernel
theorem dJ2_getChar_3b067_0 : decode cJ2_getChar_3b067 0 = .ok (.getstatic 44, 3) := by decide +kernel
theorem dJ2_getChar_3b067_3 : decode cJ2_getChar_3b067 3 = .ok (.ifCond .ne 25, 3) := by decide +kernel
theorem dJ2_getChar_3b067_6 : decode cJ2_getChar_3b067 6 = .ok (.iload_n 1, 1) := by decide +kernel
theorem dJ2_getChar_3b067_7 : decode cJ2_getChar_3b067 7 = .ok (.ifCond .lt 11, 3) := by decide +kernel
theorem dJ2_getChar_3b067_10 : decode cJ2_getChar_3b067 10 = .ok (.iload_n 1, 1) := by decide +kernel
theorem dJ2_getChar_3b067_11 : decode cJ2_getChar_3b067 11 = .ok (.aload_n 0, 1) := by decide +kernel
theorem dJ2_getChar_3b067_12 : decode cJ2_getChar_3b067 12 = .ok (.invokestatic 48, 3) := by decide +kernel
theorem dJ2_getChar_3b067_15 : decode cJ2_getChar_3b067 15 = .ok (.if_icmp .lt 13, 3) := by decide +kernel
theorem dJ2_getChar_3b067_18 : decode cJ2_getChar_3b067 18 = .ok (.new 52, 3) := by decide +kernel
theorem dJ2_getChar_3b067_21 : decode cJ2_getChar_3b067 21 = .ok (.dup, 1) := by decide +kernel
theorem dJ2_getChar_3b067_22 : decode cJ2_getChar_3b067 22 = .ok (.ldc 54, 2) := by decide +kernel
theorem dJ2_getChar_3b067_24 : decode cJ2_getChar_3b067 24 = .ok (.invokespecial 56, 3) := by decide +kernel
theorem dJ2_getChar_3b067_27 : decode cJ2_getChar_3b067 27 = .ok (.athrow, 1) := by decide +kernel
theorem dJ2_getChar_3b067_28 : decode cJ2_getChar_3b067 28 = .ok (.iload_n 1, 1) := by decide +kernel
theorem dJ2_getChar_3b067_29 : decode cJ2_getChar_3b067 29 = .ok (.iconst 1, 1) := by decide +kernel
theorem dJ2_getChar_3b067_30 : decode cJ2_getChar_3b067 30 = .ok (.ishl, 1) := by decide +kernel
theorem dJ2_getChar_3b067_31 : decode cJ2_getChar_3b067 31 = .ok (.istore_n 1, 1) := by decide +kernel
theorem dJ2_getChar_3b067_32 : decode cJ2_getChar_3b067 32 = .ok (.aload_n 0, 1) := by decide +kernel
theorem dJ2_getChar_3b067_33 : decode cJ2_getChar_3b067 33 = .ok (.iload_n 1, 1) := by decide +kernel
theorem dJ2_getChar_3b067_34 : decode cJ2_getChar_3b067 34 = .ok (.iinc 1 1, 3) := by decide +kernel
theorem dJ2_getChar_3b067_37 : decode cJ2_getChar_3b067 37 = .ok (.baload, 1) := by decide +kernel
theorem dJ2_getChar_3b067_38 : decode cJ2_getChar_3b067 38 = .ok (.sipush 255, 3) := by decide +kernel
theorem dJ2_getChar_3b067_41 : decode cJ2_getChar_3b067 41 = .ok (.iand, 1) := by decide +kernel
theorem dJ2_getChar_3b067_42 : decode cJ2_getChar_3b067 42 = .ok (.getstatic 59, 3) := by decide +kernel
theorem dJ2_getChar_3b067_45 : decode cJ2_getChar_3b067 45 = .ok (.ishl, 1) := by decide +kernel
theorem dJ2_getChar_3b067_46 : decode cJ2_getChar_3b067 46 = .ok (.aload_n 0, 1) := by decide +kernel
theorem dJ2_getChar_3b067_47 : decode cJ2_getChar_3b067 47 = .ok (.iload_n 1, 1) := by decide +kernel
theorem dJ2_getChar_3b067_48 : decode cJ2_getChar_3b067 48 = .ok (.baload, 1) := by decide +kernel
theorem dJ2_getChar_3b067_49 : decode cJ2_getChar_3b067 49 = .ok (.sipush 255, 3) := by decide +kernel
theorem dJ2_getChar_3b067_52 : decode cJ2_getChar_3b067 52 = .ok (.iand, 1) := by decide +kernel
theorem dJ2_getChar_3b067_53 : decode cJ2_getChar_3b067 53 = .ok (.getstatic 63, 3) := by decide +kernel
theorem dJ2_getChar_3b067_56 : decode cJ2_getChar_3b067 56 = .ok (.ishl, 1) := by decide +kernel
theorem dJ2_getChar_3b067_57 : decode cJ2_getChar_3b067 57 = .ok (.ior, 1) := by decide +kernel
theorem dJ2_getChar_3b067_58 : decode cJ2_getChar_3b067 58 = .ok (.i2c, 1) := by decide +kernel
theorem dJ2_getChar_3b067_59 : decode cJ2_getChar_3b067 59 = .ok (.ireturn, 1) := by decide +kernel
theorem dJ2_length_9d52b_0 : decode cJ2_length_9d52b 0 = .ok (.aload_n 0, 1) := by decide +kernel
theorem dJ2_length_9d52b_1 : decode cJ2_length_9d52b 1 = .ok (.arraylength, 1) := by decide +kernel
theorem dJ2_length_9d52b_2 : decode cJ2_length_9d52b 2 = .ok (.iconst 1, 1) := by decide +kernel
theorem dJ2_length_9d52b_3 : decode cJ2_length_9d52b 3 = .ok (.ishr, 1) := by decide +kernel
theorem dJ2_length_9d52b_4 : decode cJ2_length_9d52b 4 = .ok (.ireturn, 1) := by decide +kernel
theorem dJ2_charAt_3b067_0 : decode cJ2_charAt_3b067 0 = .ok (.iload_n 1, 1) := by decide +kernel
theorem dJ2_charAt_3b067_1 : decode cJ2_charAt_3b067 1 = .ok (.aload_n 0, 1) := by decide +kernel
theorem dJ2_charAt_3b067_2 : decode cJ2_charAt_3b067 2 = .ok (.invokestatic 67, 3) := by decide +kernel
theorem dJ2_charAt_3b067_5 : decode cJ2_charAt_3b067 5 = .ok (.aload_n 0, 1) := by decide +kernel
theorem dJ2_charAt_3b067_6 : decode cJ2_charAt_3b067 6 = .ok (.iload_n 1, 1) := by decide +kernel
theorem dJ2_charAt_3b067_7 : decode cJ2_charAt_3b067 7 = .ok (.invokestatic 71, 3) := by decide +kernel
theorem dJ2_charAt_3b067_10 : decode cJ2_charAt_3b067 10 = .ok (.ireturn, 1) := by decide +kernel
theorem dJ2_checkIndex_2214a_0 : decode cJ2_checkIndex_2214a 0 = .ok (.iload_n 0, 1) := by decide +kernel
theorem dJ2_checkIndex_2214a_1 : decode cJ2_checkIndex_2214a 1 = .ok (.aload_n 1, 1) := by decide +kernel
theorem dJ2_checkIndex_2214a_2 : decode cJ2_checkIndex_2214a 2 = .ok (.invokestatic 48, 3) := by decide +kernel
theorem dJ2_checkIndex_2214a_5 : decode cJ2_checkIndex_2214a 5 = .ok (.invokestatic 414, 3) := by decide +kernel
theorem dJ2_checkIndex_2214a_8 : decode cJ2_checkIndex_2214a 8 = .ok (.return_, 1) := by decide +kernel
theorem dJ3_checkIndex_8e157_0 : decode cJ3_checkIndex_8e157 0 = .ok (.iload_n 0, 1) := by decide +kernel
theorem dJ3_checkIndex_8e157_1 : decode cJ3_checkIndex_8e157 1 = .ok (.ifCond .lt 8, 3) := by decide +kernel
theorem dJ3_checkIndex_8e157_4 : decode cJ3_checkIndex_8e157 4 = .ok (.iload_n 0, 1) := by decide +kernel
theorem dJ3_checkIndex_8e157_5 : decode cJ3_checkIndex_8e157 5 = .ok (.iload_n 1, 1) := by decide +kernel
theorem dJ3_checkIndex_8e157_6 : decode cJ3_checkIndex_8e157 6 = .ok (.if_icmp .lt 10, 3) := by decide +kernel
theorem dJ3_checkIndex_8e157_9 : decode cJ3_checkIndex_8e157 9 = .ok (.aload_n 2, 1) := by decide +kernel
theorem dJ3_checkIndex_8e157_10 : decode cJ3_checkIndex_8e157 10 = .ok (.iload_n 0, 1) := by decide +kernel
theorem dJ3_checkIndex_8e157_11 : decode cJ3_checkIndex_8e157 11 = .ok (.iload_n 1, 1) := by decide +kernel
theorem dJ3_checkIndex_8e157_12 : decode cJ3_checkIndex_8e157 12 = .ok (.invokestatic 95, 3) := by decide +kernel
theorem dJ3_checkIndex_8e157_15 : decode cJ3_checkIndex_8e157 15 = .ok (.athrow, 1) := by decide +kernel
theorem dJ3_checkIndex_8e157_16 : decode cJ3_checkIndex_8e157 16 = .ok (.iload_n 0, 1) := by decide +kernel
theorem dJ3_checkIndex_8e157_17 : decode cJ3_checkIndex_8e157 17 = .ok (.ireturn, 1) := by decide +kernel
end
section
theorem dX12_init_0 : decode cX12_init 0 = .ok (.aload_n 0, 1) := by decide +kernel
theorem dX12_init_1 : decode cX12_init 1 = .ok (.invokespecial 1, 3) := by decide +kernel
theorem dX12_init_4 : decode cX12_init 4 = .ok (.aload_n 0, 1) := by decide +kernel
theorem dX12_init_5 : decode cX12_init 5 = .ok (.bipush 63, 2) := by decide +kernel
theorem dX12_init_7 : decode cX12_init 7 = .ok (.newarray .int, 2) := by decide +kernel
theorem dX12_init_9 : decode cX12_init 9 = .ok (.putfield 7, 3) := by decide +kernel
theorem dX12_init_12 : decode cX12_init 12 = .ok (.aload_n 0, 1) := by decide +kernel
theorem dX12_init_13 : decode cX12_init 13 = .ok (.bipush 126, 2) := by decide +kernel
theorem dX12_init_15 : decode cX12_init 15 = .ok (.newarray .int, 2) := by decide +kernel
theorem dX12_init_17 : decode cX12_init 17 = .ok (.putfield 13, 3) := by decide +kernel
theorem dX12_init_20 : decode cX12_init 20 = .ok (.aload_n 0, 1) := by decide +kernel
theorem dX12_init_21 : decode cX12_init 21 = .ok (.iconst 2, 1) := by decide +kernel
theorem dX12_init_22 : decode cX12_init 22 = .ok (.newarray .boolean, 2) := by decide +kernel
theorem dX12_init_24 : decode cX12_init 24 = .ok (.putfield 16, 3) := by decide +kernel
theorem dX12_init_27 : decode cX12_init 27 = .ok (.aload_n 0, 1) := by decide +kernel
theorem dX12_init_28 : decode cX12_init 28 = .ok (.iconst 3, 1) := by decide +kernel
theorem dX12_init_29 : decode cX12_init 29 = .ok (.newarray .int, 2) := by decide +kernel
theorem dX12_init_31 : decode cX12_init 31 = .ok (.putfield 20, 3) := by decide +kernel
theorem dX12_init_34 : decode cX12_init 34 = .ok (.aload_n 0, 1) := by decide +kernel
theorem dX12_init_35 : decode cX12_init 35 = .ok (.lconst 1, 1) := by decide +kernel
theorem dX12_init_36 : decode cX12_init 36 = .ok (.putfield 23, 3) := by decide +kernel
theorem dX12_init_39 : decode cX12_init 39 = .ok (.aload_n 0, 1) := by decide +kernel
theorem dX12_init_40 : decode cX12_init 40 = .ok (.iconst 5, 1) := by decide +kernel
theorem dX12_init_41 : decode cX12_init 41 = .ok (.newarray .int, 2) := by decide +kernel
theorem dX12_init_43 : decode cX12_init 43 = .ok (.putfield 27, 3) := by decide +kernel
theorem dX12_init_46 : decode cX12_init 46 = .ok (.aload_n 0, 1) := by decide +kernel
theorem dX12_init_47 : decode cX12_init 47 = .ok (.iconst 5, 1) := by decide +kernel
theorem dX12_init_48 : decode cX12_init 48 = .ok (.newarray .int, 2) := by decide +kernel
theorem dX12_init_50 : decode cX12_init 50 = .ok (.putfield 30, 3) := by decide +kernel
theorem dX12_init_53 : decode cX12_init 53 = .ok (.aload_n 0, 1) := by decide +kernel
theorem dX12_init_54 : decode cX12_init 54 = .ok (.iconst 5, 1) := by decide +kernel
theorem dX12_init_55 : decode cX12_init 55 = .ok (.newarray .int, 2) := by decide +kernel
theorem dX12_init_57 : decode cX12_init 57 = .ok (.putfield 33, 3) := by decide +kernel
theorem dX12_init_60 : decode cX12_init 60 = .ok (.aload_n 0, 1) := by decide +kernel
theorem dX12_init_61 : decode cX12_init 61 = .ok (.bipush 32, 2) := by decide +kernel
theorem dX12_init_63 : decode cX12_init 63 = .ok (.newarray .int, 2) := by decide +kernel
theorem dX12_init_65 : decode cX12_init 65 = .ok (.putfield 36, 3) := by decide +kernel
theorem dX12_init_68 : decode cX12_init 68 = .ok (.aload_n 0, 1) := by decide +kernel
theorem dX12_init_69 : decode cX12_init 69 = .ok (.sipush 200, 3) := by decide +kernel
theorem dX12_init_72 : decode cX12_init 72 = .ok (.newarray .int, 2) := by decide +kernel
theorem dX12_init_74 : decode cX12_init 74 = .ok (.putfield 39, 3) := by decide +kernel
theorem dX12_init_77 : decode cX12_init 77 = .ok (.aload_n 0, 1) := by decide +kernel
theorem dX12_init_78 : decode cX12_init 78 = .ok (.bipush 52, 2) := by decide +kernel
theorem dX12_init_80 : decode cX12_init 80 = .ok (.newarray .int, 2) := by decide +kernel
theorem dX12_init_82 : decode cX12_init 82 = .ok (.putfield 42, 3) := by decide +kernel
theorem dX12_init_85 : decode cX12_init 85 = .ok (.aload_n 0, 1) := by decide +kernel
theorem dX12_init_86 : decode cX12_init 86 = .ok (.iconst 4, 1) := by decide +kernel
theorem dX12_init_87 : decode cX12_init 87 = .ok (.newarray .int, 2) := by decide +kernel
theorem dX12_init_89 : decode cX12_init 89 = .ok (.putfield 45, 3) := by decide +kernel
theorem dX12_init_92 : decode cX12_init 92 = .ok (.return_, 1) := by decide +kernel
theorem dX12_in_0 : decode cX12_in 0 = .ok (.lload_n 0, 1) := by decide +kernel
theorem dX12_in_1 : decode cX12_in 1 = .ok (.lload_n 2, 1) := by decide +kernel
theorem dX12_in_2 : decode cX12_in 2 = .ok (.lcmp, 1) := by decide +kernel
theorem dX12_in_3 : decode cX12_in 3 = .ok (.ifCond .lt 14, 3) := by decide +kernel
theorem dX12_in_6 : decode cX12_in 6 = .ok (.lload_n 0, 1) := by decide +kernel
theorem dX12_in_7 : decode cX12_in 7 = .ok (.lload 4, 2) := by decide +kernel
theorem dX12_in_9 : decode cX12_in 9 = .ok (.lcmp, 1) := by decide +kernel
theorem dX12_in_10 : decode cX12_in 10 = .ok (.ifCond .gt 7, 3) := by decide +kernel
theorem dX12_in_13 : decode cX12_in 13 = .ok (.iconst 1, 1) := by decide +kernel
theorem dX12_in_14 : decode cX12_in 14 = .ok (.goto 4, 3) := by decide +kernel
theorem dX12_in_17 : decode cX12_in 17 = .ok (.iconst 0, 1) := by decide +kernel
theorem dX12_in_18 : decode cX12_in 18 = .ok (.ireturn, 1) := by decide +kernel
theorem dX12_bad_0 : decode cX12_bad 0 = .ok (.aload_n 0, 1) := by decide +kernel
theorem dX12_bad_1 : decode cX12_bad 1 = .ok (.getfield 20, 3) := by decide +kernel
theorem dX12_bad_4 : decode cX12_bad 4 = .ok (.iconst 0, 1) := by decide +kernel
theorem dX12_bad_5 : decode cX12_bad 5 = .ok (.dup2, 1) := by decide +kernel
theorem dX12_bad_6 : decode cX12_bad 6 = .ok (.iaload, 1) := by decide +kernel
theorem dX12_bad_7 : decode cX12_bad 7 = .ok (.iconst 1, 1) := by decide +kernel
theorem dX12_bad_8 : decode cX12_bad 8 = .ok (.iadd, 1) := by decide +kernel
theorem dX12_bad_9 : decode cX12_bad 9 = .ok (.iastore, 1) := by decide +kernel
theorem dX12_bad_10 : decode cX12_bad 10 = .ok (.iload_n 1, 1) := by decide +kernel
theorem dX12_bad_11 : decode cX12_bad 11 = .ok (.ireturn, 1) := by decide +kernel
theorem dX12_no_0 : decode cX12_no 0 = .ok (.aload_n 0, 1) := by decide +kernel
theorem dX12_no_1 : decode cX12_no 1 = .ok (.getfield 20, 3) := by decide +kernel
theorem dX12_no_4 : decode cX12_no 4 = .ok (.iconst 1, 1) := by decide +kernel
theorem dX12_no_5 : decode cX12_no 5 = .ok (.dup2, 1) := by decide +kernel
theorem dX12_no_6 : decode cX12_no 6 = .ok (.iaload, 1) := by decide +kernel
theorem dX12_no_7 : decode cX12_no 7 = .ok (.iconst 1, 1) := by decide +kernel
theorem dX12_no_8 : decode cX12_no 8 = .ok (.iadd, 1) := by decide +kernel
theorem dX12_no_9 : decode cX12_no 9 = .ok (.iastore, 1) := by decide +kernel
theorem dX12_no_10 : decode cX12_no 10 = .ok (.iload_n 1, 1) := by decide +kernel
theorem dX12_no_11 : decode cX12_no 11 = .ok (.ireturn, 1) := by decide +kernel
theorem dX12_full_0 : decode cX12_full 0 = .ok (.aload_n 0, 1) := by decide +kernel
theorem dX12_full_1 : decode cX12_full 1 = .ok (.getfield 20, 3) := by decide +kernel
theorem dX12_full_4 : decode cX12_full 4 = .ok (.iconst 2, 1) := by decide +kernel
theorem dX12_full_5 : decode cX12_full 5 = .ok (.dup2, 1) := by decide +kernel
theorem dX12_full_6 : decode cX12_full 6 = .ok (.iaload, 1) := by decide +kernel
theorem dX12_full_7 : decode cX12_full 7 = .ok (.iconst 1, 1) := by decide +kernel
theorem dX12_full_8 : decode cX12_full 8 = .ok (.iadd, 1) := by decide +kernel
theorem dX12_full_9 : decode cX12_full 9 = .ok (.iastore, 1) := by decide +kernel
theorem dX12_full_10 : decode cX12_full 10 = .ok (.bipush (-4), 2) := by decide +kernel
theorem dX12_full_12 : decode cX12_full 12 = .ok (.ireturn, 1) := by decide +kernel
theorem dX12_bits_0 : decode cX12_bits 0 = .ok (.iconst 0, 1) := by decide +kernel
theorem dX12_bits_1 : decode cX12_bits 1 = .ok (.istore_n 1, 1) := by decide +kernel
theorem dX12_bits_2 : decode cX12_bits 2 = .ok (.iload_n 0, 1) := by decide +kernel
theorem dX12_bits_3 : decode cX12_bits 3 = .ok (.istore_n 2, 1) := by decide +kernel
theorem dX12_bits_4 : decode cX12_bits 4 = .ok (.iload_n 2, 1) := by decide +kernel
theorem dX12_bits_5 : decode cX12_bits 5 = .ok (.ifCond .le 16, 3) := by decide +kernel
theorem dX12_bits_8 : decode cX12_bits 8 = .ok (.iload_n 1, 1) := by decide +kernel
theorem dX12_bits_9 : decode cX12_bits 9 = .ok (.iload_n 2, 1) := by decide +kernel
theorem dX12_bits_10 : decode cX12_bits 10 = .ok (.iconst 1, 1) := by decide +kernel
theorem dX12_bits_11 : decode cX12_bits 11 = .ok (.iand, 1) := by decide +kernel
theorem dX12_bits_12 : decode cX12_bits 12 = .ok (.iadd, 1) := by decide +kernel
theorem dX12_bits_13 : decode cX12_bits 13 = .ok (.istore_n 1, 1) := by decide +kernel
theorem dX12_bits_14 : decode cX12_bits 14 = .ok (.iload_n 2, 1) := by decide +kernel
theorem dX12_bits_15 : decode cX12_bits 15 = .ok (.iconst 1, 1) := by decide +kernel
theorem dX12_bits_16 : decode cX12_bits 16 = .ok (.ishr, 1) := by decide +kernel
theorem dX12_bits_17 : decode cX12_bits 17 = .ok (.istore_n 2, 1) := by decide +kernel
theorem dX12_bits_18 : decode cX12_bits 18 = .ok (.goto (-14), 3) := by decide +kernel
theorem dX12_bits_21 : decode cX12_bits 21 = .ok (.iload_n 1, 1) := by decide +kernel
theorem dX12_bits_22 : decode cX12_bits 22 = .ok (.ireturn, 1) := by decide +kernel
theorem dX12_things_0 : decode cX12_things 0 = .ok (.aload_n 0, 1) := by decide +kernel
theorem dX12_things_1 : decode cX12_things 1 = .ok (.getfield 7, 3) := by decide +kernel
theorem dX12_things_4 : decode cX12_things 4 = .ok (.iconst 0, 1) := by decide +kernel
theorem dX12_things_5 : decode cX12_things 5 = .ok (.iaload, 1) := by decide +kernel
theorem dX12_things_6 : decode cX12_things 6 = .ok (.ireturn, 1) := by decide +kernel
theorem dX12_isThing_0 : decode cX12_isThing 0 = .ok (.iload_n 1, 1) := by decide +kernel
theorem dX12_isThing_1 : decode cX12_isThing 1 = .ok (.i2l, 1) := by decide +kernel
theorem dX12_isThing_2 : decode cX12_isThing 2 = .ok (.lconst 0, 1) := by decide +kernel
theorem dX12_isThing_3 : decode cX12_isThing 3 = .ok (.aload_n 0, 1) := by decide +kernel
theorem dX12_isThing_4 : decode cX12_isThing 4 = .ok (.invokevirtual 48, 3) := by decide +kernel
theorem dX12_isThing_7 : decode cX12_isThing 7 = .ok (.iconst 1, 1) := by decide +kernel
theorem dX12_isThing_8 : decode cX12_isThing 8 = .ok (.isub, 1) := by decide +kernel
theorem dX12_isThing_9 : decode cX12_isThing 9 = .ok (.i2l, 1) := by decide +kernel
theorem dX12_isThing_10 : decode cX12_isThing 10 = .ok (.invokestatic 52, 3) := by decide +kernel
theorem dX12_isThing_13 : decode cX12_isThing 13 = .ok (.ireturn, 1) := by decide +kernel
theorem dX12_all_0 : decode cX12_all 0 = .ok (.iconst 1, 1) := by decide +kernel
theorem dX12_all_1 : decode cX12_all 1 = .ok (.aload_n 0, 1) := by decide +kernel
theorem dX12_all_2 : decode cX12_all 2 = .ok (.invokevirtual 48, 3) := by decide +kernel
theorem dX12_all_5 : decode cX12_all 5 = .ok (.ishl, 1) := by decide +kernel
theorem dX12_all_6 : decode cX12_all 6 = .ok (.iconst 1, 1) := by decide +kernel
theorem dX12_all_7 : decode cX12_all 7 = .ok (.isub, 1) := by decide +kernel
theorem dX12_all_8 : decode cX12_all 8 = .ok (.ireturn, 1) := by decide +kernel
theorem dX12_of_0 : decode cX12_of 0 = .ok (.aload_n 0, 1) := by decide +kernel
theorem dX12_of_1 : decode cX12_of 1 = .ok (.getfield 7, 3) := by decide +kernel
theorem dX12_of_4 : decode cX12_of 4 = .ok (.iconst 1, 1) := by decide +kernel
theorem dX12_of_5 : decode cX12_of 5 = .ok (.iconst 5, 1) := by decide +kernel
theorem dX12_of_6 : decode cX12_of 6 = .ok (.iload_n 1, 1) := by decide +kernel
theorem dX12_of_7 : decode cX12_of 7 = .ok (.imul, 1) := by decide +kernel
theorem dX12_of_8 : decode cX12_of 8 = .ok (.iadd, 1) := by decide +kernel
theorem dX12_of_9 : decode cX12_of 9 = .ok (.iload_n 2, 1) := by decide +kernel
theorem dX12_of_10 : decode cX12_of 10 = .ok (.iadd, 1) := by decide +kernel
theorem dX12_of_11 : decode cX12_of 11 = .ok (.iaload, 1) := by decide +kernel
theorem dX12_of_12 : decode cX12_of 12 = .ok (.ireturn, 1) := by decide +kernel
theorem dX12_layThing_0 : decode cX12_layThing 0 = .ok (.iconst 1, 1) := by decide +kernel
theorem dX12_layThing_1 : decode cX12_layThing 1 = .ok (.iconst 5, 1) := by decide +kernel
theorem dX12_layThing_2 : decode cX12_layThing 2 = .ok (.aload_n 0, 1) := by decide +kernel
theorem dX12_layThing_3 : decode cX12_layThing 3 = .ok (.iconst 0, 1) := by decide +kernel
theorem dX12_layThing_4 : decode cX12_layThing 4 = .ok (.iaload, 1) := by decide +kernel
theorem dX12_layThing_5 : decode cX12_layThing 5 = .ok (.imul, 1) := by decide +kernel
theorem dX12_layThing_6 : decode cX12_layThing 6 = .ok (.iadd, 1) := by decide +kernel
theorem dX12_layThing_7 : decode cX12_layThing 7 = .ok (.istore 5, 2) := by decide +kernel
theorem dX12_layThing_9 : decode cX12_layThing 9 = .ok (.aload_n 0, 1) := by decide +kernel
theorem dX12_layThing_10 : decode cX12_layThing 10 = .ok (.iload 5, 2) := by decide +kernel
theorem dX12_layThing_12 : decode cX12_layThing 12 = .ok (.iconst 0, 1) := by decide +kernel
theorem dX12_layThing_13 : decode cX12_layThing 13 = .ok (.iadd, 1) := by decide +kernel
theorem dX12_layThing_14 : decode cX12_layThing 14 = .ok (.iload_n 1, 1) := by decide +kernel
theorem dX12_layThing_15 : decode cX12_layThing 15 = .ok (.iastore, 1) := by decide +kernel
theorem dX12_layThing_16 : decode cX12_layThing 16 = .ok (.aload_n 0, 1) := by decide +kernel
theorem dX12_layThing_17 : decode cX12_layThing 17 = .ok (.iload 5, 2) := by decide +kernel
theorem dX12_layThing_19 : decode cX12_layThing 19 = .ok (.iconst 1, 1) := by decide +kernel
theorem dX12_layThing_20 : decode cX12_layThing 20 = .ok (.iadd, 1) := by decide +kernel
theorem dX12_layThing_21 : decode cX12_layThing 21 = .ok (.iload_n 2, 1) := by decide +kernel
theorem dX12_layThing_22 : decode cX12_layThing 22 = .ok (.iastore, 1) := by decide +kernel
theorem dX12_layThing_23 : decode cX12_layThing 23 = .ok (.aload_n 0, 1) := by decide +kernel
theorem dX12_layThing_24 : decode cX12_layThing 24 = .ok (.iload 5, 2) := by decide +kernel
theorem dX12_layThing_26 : decode cX12_layThing 26 = .ok (.iconst 2, 1) := by decide +kernel
theorem dX12_layThing_27 : decode cX12_layThing 27 = .ok (.iadd, 1) := by decide +kernel
theorem dX12_layThing_28 : decode cX12_layThing 28 = .ok (.iload_n 3, 1) := by decide +kernel
theorem dX12_layThing_29 : decode cX12_layThing 29 = .ok (.iastore, 1) := by decide +kernel
theorem dX12_layThing_30 : decode cX12_layThing 30 = .ok (.aload_n 0, 1) := by decide +kernel
theorem dX12_layThing_31 : decode cX12_layThing 31 = .ok (.iload 5, 2) := by decide +kernel
theorem dX12_layThing_33 : decode cX12_layThing 33 = .ok (.iconst 3, 1) := by decide +kernel
theorem dX12_layThing_34 : decode cX12_layThing 34 = .ok (.iadd, 1) := by decide +kernel
theorem dX12_layThing_35 : decode cX12_layThing 35 = .ok (.iload 4, 2) := by decide +kernel
theorem dX12_layThing_37 : decode cX12_layThing 37 = .ok (.iastore, 1) := by decide +kernel
theorem dX12_layThing_38 : decode cX12_layThing 38 = .ok (.aload_n 0, 1) := by decide +kernel
theorem dX12_layThing_39 : decode cX12_layThing 39 = .ok (.iload 5, 2) := by decide +kernel
theorem dX12_layThing_41 : decode cX12_layThing 41 = .ok (.iconst 4, 1) := by decide +kernel
theorem dX12_layThing_42 : decode cX12_layThing 42 = .ok (.iadd, 1) := by decide +kernel
theorem dX12_layThing_43 : decode cX12_layThing 43 = .ok (.iconst 1, 1) := by decide +kernel
theorem dX12_layThing_44 : decode cX12_layThing 44 = .ok (.iastore, 1) := by decide +kernel
theorem dX12_layThing_45 : decode cX12_layThing 45 = .ok (.aload_n 0, 1) := by decide +kernel
theorem dX12_layThing_46 : decode cX12_layThing 46 = .ok (.iconst 0, 1) := by decide +kernel
theorem dX12_layThing_47 : decode cX12_layThing 47 = .ok (.dup2, 1) := by decide +kernel
theorem dX12_layThing_48 : decode cX12_layThing 48 = .ok (.iaload, 1) := by decide +kernel
theorem dX12_layThing_49 : decode cX12_layThing 49 = .ok (.iconst 1, 1) := by decide +kernel
theorem dX12_layThing_50 : decode cX12_layThing 50 = .ok (.iadd, 1) := by decide +kernel
theorem dX12_layThing_51 : decode cX12_layThing 51 = .ok (.iastore, 1) := by decide +kernel
theorem dX12_layThing_52 : decode cX12_layThing 52 = .ok (.return_, 1) := by decide +kernel
theorem dX12_thing_0 : decode cX12_thing 0 = .ok (.iload_n 1, 1) := by decide +kernel
theorem dX12_thing_1 : decode cX12_thing 1 = .ok (.i2l, 1) := by decide +kernel
theorem dX12_thing_2 : decode cX12_thing 2 = .ok (.lconst 0, 1) := by decide +kernel
theorem dX12_thing_3 : decode cX12_thing 3 = .ok (.ldc2_w 56, 3) := by decide +kernel
theorem dX12_thing_6 : decode cX12_thing 6 = .ok (.invokestatic 52, 3) := by decide +kernel
theorem dX12_thing_9 : decode cX12_thing 9 = .ok (.ifCond .eq 40, 3) := by decide +kernel
theorem dX12_thing_12 : decode cX12_thing 12 = .ok (.iload_n 2, 1) := by decide +kernel
theorem dX12_thing_13 : decode cX12_thing 13 = .ok (.i2l, 1) := by decide +kernel
theorem dX12_thing_14 : decode cX12_thing 14 = .ok (.lconst 0, 1) := by decide +kernel
theorem dX12_thing_15 : decode cX12_thing 15 = .ok (.ldc2_w 58, 3) := by decide +kernel
theorem dX12_thing_18 : decode cX12_thing 18 = .ok (.invokestatic 52, 3) := by decide +kernel
theorem dX12_thing_21 : decode cX12_thing 21 = .ok (.ifCond .eq 28, 3) := by decide +kernel
theorem dX12_thing_24 : decode cX12_thing 24 = .ok (.iload_n 3, 1) := by decide +kernel
theorem dX12_thing_25 : decode cX12_thing 25 = .ok (.i2l, 1) := by decide +kernel
theorem dX12_thing_26 : decode cX12_thing 26 = .ok (.lconst 1, 1) := by decide +kernel
theorem dX12_thing_27 : decode cX12_thing 27 = .ok (.ldc2_w 58, 3) := by decide +kernel
theorem dX12_thing_30 : decode cX12_thing 30 = .ok (.invokestatic 52, 3) := by decide +kernel
theorem dX12_thing_33 : decode cX12_thing 33 = .ok (.ifCond .eq 16, 3) := by decide +kernel
theorem dX12_thing_36 : decode cX12_thing 36 = .ok (.iload 4, 2) := by decide +kernel
theorem dX12_thing_38 : decode cX12_thing 38 = .ok (.i2l, 1) := by decide +kernel
theorem dX12_thing_39 : decode cX12_thing 39 = .ok (.lconst 0, 1) := by decide +kernel
theorem dX12_thing_40 : decode cX12_thing 40 = .ok (.ldc2_w 58, 3) := by decide +kernel
theorem dX12_thing_43 : decode cX12_thing 43 = .ok (.invokestatic 52, 3) := by decide +kernel
theorem dX12_thing_46 : decode cX12_thing 46 = .ok (.ifCond .ne 10, 3) := by decide +kernel
theorem dX12_thing_49 : decode cX12_thing 49 = .ok (.aload_n 0, 1) := by decide +kernel
theorem dX12_thing_50 : decode cX12_thing 50 = .ok (.bipush (-2), 2) := by decide +kernel
theorem dX12_thing_52 : decode cX12_thing 52 = .ok (.invokevirtual 60, 3) := by decide +kernel
theorem dX12_thing_55 : decode cX12_thing 55 = .ok (.ireturn, 1) := by decide +kernel
theorem dX12_thing_56 : decode cX12_thing 56 = .ok (.aload_n 0, 1) := by decide +kernel
theorem dX12_thing_57 : decode cX12_thing 57 = .ok (.invokevirtual 48, 3) := by decide +kernel
theorem dX12_thing_60 : decode cX12_thing 60 = .ok (.iconst 5, 1) := by decide +kernel
theorem dX12_thing_61 : decode cX12_thing 61 = .ok (.if_icmp .ne 8, 3) := by decide +kernel
theorem dX12_thing_64 : decode cX12_thing 64 = .ok (.aload_n 0, 1) := by decide +kernel
theorem dX12_thing_65 : decode cX12_thing 65 = .ok (.invokevirtual 64, 3) := by decide +kernel
theorem dX12_thing_68 : decode cX12_thing 68 = .ok (.ireturn, 1) := by decide +kernel
theorem dX12_thing_69 : decode cX12_thing 69 = .ok (.aload_n 0, 1) := by decide +kernel
theorem dX12_thing_70 : decode cX12_thing 70 = .ok (.getfield 7, 3) := by decide +kernel
theorem dX12_thing_73 : decode cX12_thing 73 = .ok (.iload_n 1, 1) := by decide +kernel
theorem dX12_thing_74 : decode cX12_thing 74 = .ok (.iload_n 2, 1) := by decide +kernel
theorem dX12_thing_75 : decode cX12_thing 75 = .ok (.iload_n 3, 1) := by decide +kernel
theorem dX12_thing_76 : decode cX12_thing 76 = .ok (.iload 4, 2) := by decide +kernel
theorem dX12_thing_78 : decode cX12_thing 78 = .ok (.invokestatic 67, 3) := by decide +kernel
theorem dX12_thing_81 : decode cX12_thing 81 = .ok (.aload_n 0, 1) := by decide +kernel
theorem dX12_thing_82 : decode cX12_thing 82 = .ok (.invokevirtual 48, 3) := by decide +kernel
theorem dX12_thing_85 : decode cX12_thing 85 = .ok (.iconst 1, 1) := by decide +kernel
theorem dX12_thing_86 : decode cX12_thing 86 = .ok (.isub, 1) := by decide +kernel
theorem dX12_thing_87 : decode cX12_thing 87 = .ok (.ireturn, 1) := by decide +kernel
theorem dX12_rope_0 : decode cX12_rope 0 = .ok (.aload_n 0, 1) := by decide +kernel
theorem dX12_rope_1 : decode cX12_rope 1 = .ok (.iload_n 1, 1) := by decide +kernel
theorem dX12_rope_2 : decode cX12_rope 2 = .ok (.invokevirtual 71, 3) := by decide +kernel
theorem dX12_rope_5 : decode cX12_rope 5 = .ok (.ifCond .ne 10, 3) := by decide +kernel
theorem dX12_rope_8 : decode cX12_rope 8 = .ok (.aload_n 0, 1) := by decide +kernel
theorem dX12_rope_9 : decode cX12_rope 9 = .ok (.bipush (-2), 2) := by decide +kernel
theorem dX12_rope_11 : decode cX12_rope 11 = .ok (.invokevirtual 60, 3) := by decide +kernel
theorem dX12_rope_14 : decode cX12_rope 14 = .ok (.ireturn, 1) := by decide +kernel
theorem dX12_rope_15 : decode cX12_rope 15 = .ok (.iload_n 2, 1) := by decide +kernel
theorem dX12_rope_16 : decode cX12_rope 16 = .ok (.ifCond .eq 7, 3) := by decide +kernel
theorem dX12_rope_19 : decode cX12_rope 19 = .ok (.iconst 1, 1) := by decide +kernel
theorem dX12_rope_20 : decode cX12_rope 20 = .ok (.goto 4, 3) := by decide +kernel
theorem dX12_rope_23 : decode cX12_rope 23 = .ok (.iconst 0, 1) := by decide +kernel
theorem dX12_rope_24 : decode cX12_rope 24 = .ok (.istore_n 3, 1) := by decide +kernel
theorem dX12_rope_25 : decode cX12_rope 25 = .ok (.aload_n 0, 1) := by decide +kernel
theorem dX12_rope_26 : decode cX12_rope 26 = .ok (.iload_n 1, 1) := by decide +kernel
theorem dX12_rope_27 : decode cX12_rope 27 = .ok (.iconst 4, 1) := by decide +kernel
theorem dX12_rope_28 : decode cX12_rope 28 = .ok (.invokevirtual 75, 3) := by decide +kernel
theorem dX12_rope_31 : decode cX12_rope 31 = .ok (.iload_n 3, 1) := by decide +kernel
theorem dX12_rope_32 : decode cX12_rope 32 = .ok (.if_icmp .ne 10, 3) := by decide +kernel
theorem dX12_rope_35 : decode cX12_rope 35 = .ok (.aload_n 0, 1) := by decide +kernel
theorem dX12_rope_36 : decode cX12_rope 36 = .ok (.bipush (-3), 2) := by decide +kernel
theorem dX12_rope_38 : decode cX12_rope 38 = .ok (.invokevirtual 79, 3) := by decide +kernel
theorem dX12_rope_41 : decode cX12_rope 41 = .ok (.ireturn, 1) := by decide +kernel
theorem dX12_rope_42 : decode cX12_rope 42 = .ok (.aload_n 0, 1) := by decide +kernel
theorem dX12_rope_43 : decode cX12_rope 43 = .ok (.getfield 7, 3) := by decide +kernel
theorem dX12_rope_46 : decode cX12_rope 46 = .ok (.iconst 1, 1) := by decide +kernel
theorem dX12_rope_47 : decode cX12_rope 47 = .ok (.iconst 5, 1) := by decide +kernel
theorem dX12_rope_48 : decode cX12_rope 48 = .ok (.iload_n 1, 1) := by decide +kernel
theorem dX12_rope_49 : decode cX12_rope 49 = .ok (.imul, 1) := by decide +kernel
theorem dX12_rope_50 : decode cX12_rope 50 = .ok (.iadd, 1) := by decide +kernel
theorem dX12_rope_51 : decode cX12_rope 51 = .ok (.iconst 4, 1) := by decide +kernel
theorem dX12_rope_52 : decode cX12_rope 52 = .ok (.iadd, 1) := by decide +kernel
theorem dX12_rope_53 : decode cX12_rope 53 = .ok (.iload_n 3, 1) := by decide +kernel
theorem dX12_rope_54 : decode cX12_rope 54 = .ok (.iastore, 1) := by decide +kernel
theorem dX12_rope_55 : decode cX12_rope 55 = .ok (.iconst 1, 1) := by decide +kernel
theorem dX12_rope_56 : decode cX12_rope 56 = .ok (.ireturn, 1) := by decide +kernel
theorem dX12_damp_0 : decode cX12_damp 0 = .ok (.iload_n 1, 1) := by decide +kernel
theorem dX12_damp_1 : decode cX12_damp 1 = .ok (.i2l, 1) := by decide +kernel
theorem dX12_damp_2 : decode cX12_damp 2 = .ok (.lconst 0, 1) := by decide +kernel
theorem dX12_damp_3 : decode cX12_damp 3 = .ok (.ldc2_w 58, 3) := by decide +kernel
theorem dX12_damp_6 : decode cX12_damp 6 = .ok (.invokestatic 52, 3) := by decide +kernel
theorem dX12_damp_9 : decode cX12_damp 9 = .ok (.ifCond .ne 10, 3) := by decide +kernel
theorem dX12_damp_12 : decode cX12_damp 12 = .ok (.aload_n 0, 1) := by decide +kernel
theorem dX12_damp_13 : decode cX12_damp 13 = .ok (.bipush (-2), 2) := by decide +kernel
theorem dX12_damp_15 : decode cX12_damp 15 = .ok (.invokevirtual 60, 3) := by decide +kernel
theorem dX12_damp_18 : decode cX12_damp 18 = .ok (.ireturn, 1) := by decide +kernel
theorem dX12_damp_19 : decode cX12_damp 19 = .ok (.aload_n 0, 1) := by decide +kernel
theorem dX12_damp_20 : decode cX12_damp 20 = .ok (.getfield 7, 3) := by decide +kernel
theorem dX12_damp_23 : decode cX12_damp 23 = .ok (.bipush 26, 2) := by decide +kernel
theorem dX12_damp_25 : decode cX12_damp 25 = .ok (.iaload, 1) := by decide +kernel
theorem dX12_damp_26 : decode cX12_damp 26 = .ok (.istore_n 2, 1) := by decide +kernel
theorem dX12_damp_27 : decode cX12_damp 27 = .ok (.aload_n 0, 1) := by decide +kernel
theorem dX12_damp_28 : decode cX12_damp 28 = .ok (.getfield 7, 3) := by decide +kernel
theorem dX12_damp_31 : decode cX12_damp 31 = .ok (.bipush 26, 2) := by decide +kernel
theorem dX12_damp_33 : decode cX12_damp 33 = .ok (.iload_n 1, 1) := by decide +kernel
theorem dX12_damp_34 : decode cX12_damp 34 = .ok (.iastore, 1) := by decide +kernel
theorem dX12_damp_35 : decode cX12_damp 35 = .ok (.iload_n 2, 1) := by decide +kernel
theorem dX12_damp_36 : decode cX12_damp 36 = .ok (.ireturn, 1) := by decide +kernel
theorem dX12_wholeNow_0 : decode cX12_wholeNow 0 = .ok (.iconst 0, 1) := by decide +kernel
theorem dX12_wholeNow_1 : decode cX12_wholeNow 1 = .ok (.istore_n 1, 1) := by decide +kernel
theorem dX12_wholeNow_2 : decode cX12_wholeNow 2 = .ok (.iconst 0, 1) := by decide +kernel
theorem dX12_wholeNow_3 : decode cX12_wholeNow 3 = .ok (.istore_n 2, 1) := by decide +kernel
theorem dX12_wholeNow_4 : decode cX12_wholeNow 4 = .ok (.iload_n 2, 1) := by decide +kernel
theorem dX12_wholeNow_5 : decode cX12_wholeNow 5 = .ok (.aload_n 0, 1) := by decide +kernel
theorem dX12_wholeNow_6 : decode cX12_wholeNow 6 = .ok (.invokevirtual 48, 3) := by decide +kernel
theorem dX12_wholeNow_9 : decode cX12_wholeNow 9 = .ok (.if_icmp .ge 20, 3) := by decide +kernel
theorem dX12_wholeNow_12 : decode cX12_wholeNow 12 = .ok (.iload_n 1, 1) := by decide +kernel
theorem dX12_wholeNow_13 : decode cX12_wholeNow 13 = .ok (.aload_n 0, 1) := by decide +kernel
theorem dX12_wholeNow_14 : decode cX12_wholeNow 14 = .ok (.iload_n 2, 1) := by decide +kernel
theorem dX12_wholeNow_15 : decode cX12_wholeNow 15 = .ok (.iconst 4, 1) := by decide +kernel
theorem dX12_wholeNow_16 : decode cX12_wholeNow 16 = .ok (.invokevirtual 75, 3) := by decide +kernel
theorem dX12_wholeNow_19 : decode cX12_wholeNow 19 = .ok (.iload_n 2, 1) := by decide +kernel
theorem dX12_wholeNow_20 : decode cX12_wholeNow 20 = .ok (.ishl, 1) := by decide +kernel
theorem dX12_wholeNow_21 : decode cX12_wholeNow 21 = .ok (.ior, 1) := by decide +kernel
theorem dX12_wholeNow_22 : decode cX12_wholeNow 22 = .ok (.istore_n 1, 1) := by decide +kernel
theorem dX12_wholeNow_23 : decode cX12_wholeNow 23 = .ok (.iinc 2 1, 3) := by decide +kernel
theorem dX12_wholeNow_26 : decode cX12_wholeNow 26 = .ok (.goto (-22), 3) := by decide +kernel
theorem dX12_wholeNow_29 : decode cX12_wholeNow 29 = .ok (.iload_n 1, 1) := by decide +kernel
theorem dX12_wholeNow_30 : decode cX12_wholeNow 30 = .ok (.ireturn, 1) := by decide +kernel
theorem dX12_takeSlacks_0 : decode cX12_takeSlacks 0 = .ok (.iconst 0, 1) := by decide +kernel
theorem dX12_takeSlacks_1 : decode cX12_takeSlacks 1 = .ok (.istore_n 2, 1) := by decide +kernel
theorem dX12_takeSlacks_2 : decode cX12_takeSlacks 2 = .ok (.iload_n 2, 1) := by decide +kernel
theorem dX12_takeSlacks_3 : decode cX12_takeSlacks 3 = .ok (.aload_n 0, 1) := by decide +kernel
theorem dX12_takeSlacks_4 : decode cX12_takeSlacks 4 = .ok (.invokevirtual 48, 3) := by decide +kernel
theorem dX12_takeSlacks_7 : decode cX12_takeSlacks 7 = .ok (.if_icmp .ge 33, 3) := by decide +kernel
theorem dX12_takeSlacks_10 : decode cX12_takeSlacks 10 = .ok (.aload_n 0, 1) := by decide +kernel
theorem dX12_takeSlacks_11 : decode cX12_takeSlacks 11 = .ok (.iload_n 2, 1) := by decide +kernel
theorem dX12_takeSlacks_12 : decode cX12_takeSlacks 12 = .ok (.iconst 1, 1) := by decide +kernel
theorem dX12_takeSlacks_13 : decode cX12_takeSlacks 13 = .ok (.invokevirtual 75, 3) := by decide +kernel
theorem dX12_takeSlacks_16 : decode cX12_takeSlacks 16 = .ok (.iload_n 1, 1) := by decide +kernel
theorem dX12_takeSlacks_17 : decode cX12_takeSlacks 17 = .ok (.isub, 1) := by decide +kernel
theorem dX12_takeSlacks_18 : decode cX12_takeSlacks 18 = .ok (.istore_n 3, 1) := by decide +kernel
theorem dX12_takeSlacks_19 : decode cX12_takeSlacks 19 = .ok (.aload_n 0, 1) := by decide +kernel
theorem dX12_takeSlacks_20 : decode cX12_takeSlacks 20 = .ok (.getfield 27, 3) := by decide +kernel
theorem dX12_takeSlacks_23 : decode cX12_takeSlacks 23 = .ok (.iload_n 2, 1) := by decide +kernel
theorem dX12_takeSlacks_24 : decode cX12_takeSlacks 24 = .ok (.iload_n 3, 1) := by decide +kernel
theorem dX12_takeSlacks_25 : decode cX12_takeSlacks 25 = .ok (.ifCond .ge 7, 3) := by decide +kernel
theorem dX12_takeSlacks_28 : decode cX12_takeSlacks 28 = .ok (.iconst 0, 1) := by decide +kernel
theorem dX12_takeSlacks_29 : decode cX12_takeSlacks 29 = .ok (.goto 4, 3) := by decide +kernel
theorem dX12_takeSlacks_32 : decode cX12_takeSlacks 32 = .ok (.iload_n 3, 1) := by decide +kernel
theorem dX12_takeSlacks_33 : decode cX12_takeSlacks 33 = .ok (.iastore, 1) := by decide +kernel
theorem dX12_takeSlacks_34 : decode cX12_takeSlacks 34 = .ok (.iinc 2 1, 3) := by decide +kernel
theorem dX12_takeSlacks_37 : decode cX12_takeSlacks 37 = .ok (.goto (-35), 3) := by decide +kernel
theorem dX12_takeSlacks_40 : decode cX12_takeSlacks 40 = .ok (.return_, 1) := by decide +kernel
theorem dX12_takeNow_0 : decode cX12_takeNow 0 = .ok (.aload_n 0, 1) := by decide +kernel
theorem dX12_takeNow_1 : decode cX12_takeNow 1 = .ok (.aload_n 0, 1) := by decide +kernel
theorem dX12_takeNow_2 : decode cX12_takeNow 2 = .ok (.getfield 7, 3) := by decide +kernel
theorem dX12_takeNow_5 : decode cX12_takeNow 5 = .ok (.bipush 26, 2) := by decide +kernel
theorem dX12_takeNow_7 : decode cX12_takeNow 7 = .ok (.iaload, 1) := by decide +kernel
theorem dX12_takeNow_8 : decode cX12_takeNow 8 = .ok (.invokevirtual 82, 3) := by decide +kernel
theorem dX12_takeNow_11 : decode cX12_takeNow 11 = .ok (.aload_n 0, 1) := by decide +kernel
theorem dX12_takeNow_12 : decode cX12_takeNow 12 = .ok (.aload_n 0, 1) := by decide +kernel
theorem dX12_takeNow_13 : decode cX12_takeNow 13 = .ok (.invokevirtual 86, 3) := by decide +kernel
theorem dX12_takeNow_16 : decode cX12_takeNow 16 = .ok (.putfield 89, 3) := by decide +kernel
theorem dX12_takeNow_19 : decode cX12_takeNow 19 = .ok (.return_, 1) := by decide +kernel
theorem dX12_onePull_0 : decode cX12_onePull 0 = .ok (.aload_n 0, 1) := by decide +kernel
theorem dX12_onePull_1 : decode cX12_onePull 1 = .ok (.iload_n 1, 1) := by decide +kernel
theorem dX12_onePull_2 : decode cX12_onePull 2 = .ok (.putfield 93, 3) := by decide +kernel
theorem dX12_onePull_5 : decode cX12_onePull 5 = .ok (.aload_n 0, 1) := by decide +kernel
theorem dX12_onePull_6 : decode cX12_onePull 6 = .ok (.iload_n 2, 1) := by decide +kernel
theorem dX12_onePull_7 : decode cX12_onePull 7 = .ok (.putfield 96, 3) := by decide +kernel
theorem dX12_onePull_10 : decode cX12_onePull 10 = .ok (.aload_n 0, 1) := by decide +kernel
theorem dX12_onePull_11 : decode cX12_onePull 11 = .ok (.iconst (-1), 1) := by decide +kernel
theorem dX12_onePull_12 : decode cX12_onePull 12 = .ok (.putfield 99, 3) := by decide +kernel
theorem dX12_onePull_15 : decode cX12_onePull 15 = .ok (.aload_n 0, 1) := by decide +kernel
theorem dX12_onePull_16 : decode cX12_onePull 16 = .ok (.iconst 0, 1) := by decide +kernel
theorem dX12_onePull_17 : decode cX12_onePull 17 = .ok (.putfield 102, 3) := by decide +kernel
theorem dX12_onePull_20 : decode cX12_onePull 20 = .ok (.return_, 1) := by decide +kernel
theorem dX12_travelOf_0 : decode cX12_travelOf 0 = .ok (.iload_n 1, 1) := by decide +kernel
theorem dX12_travelOf_1 : decode cX12_travelOf 1 = .ok (.iconst (-1), 1) := by decide +kernel
theorem dX12_travelOf_2 : decode cX12_travelOf 2 = .ok (.if_icmp .eq 24, 3) := by decide +kernel
theorem dX12_travelOf_5 : decode cX12_travelOf 5 = .ok (.aload_n 0, 1) := by decide +kernel
theorem dX12_travelOf_6 : decode cX12_travelOf 6 = .ok (.getfield 89, 3) := by decide +kernel
theorem dX12_travelOf_9 : decode cX12_travelOf 9 = .ok (.iload_n 1, 1) := by decide +kernel
theorem dX12_travelOf_10 : decode cX12_travelOf 10 = .ok (.ishr, 1) := by decide +kernel
theorem dX12_travelOf_11 : decode cX12_travelOf 11 = .ok (.iconst 1, 1) := by decide +kernel
theorem dX12_travelOf_12 : decode cX12_travelOf 12 = .ok (.iand, 1) := by decide +kernel
theorem dX12_travelOf_13 : decode cX12_travelOf 13 = .ok (.ifCond .eq 13, 3) := by decide +kernel
theorem dX12_travelOf_16 : decode cX12_travelOf 16 = .ok (.iload_n 2, 1) := by decide +kernel
theorem dX12_travelOf_17 : decode cX12_travelOf 17 = .ok (.aload_n 0, 1) := by decide +kernel
theorem dX12_travelOf_18 : decode cX12_travelOf 18 = .ok (.getfield 27, 3) := by decide +kernel
theorem dX12_travelOf_21 : decode cX12_travelOf 21 = .ok (.iload_n 1, 1) := by decide +kernel
theorem dX12_travelOf_22 : decode cX12_travelOf 22 = .ok (.iaload, 1) := by decide +kernel
theorem dX12_travelOf_23 : decode cX12_travelOf 23 = .ok (.if_icmp .ge 7, 3) := by decide +kernel
theorem dX12_travelOf_26 : decode cX12_travelOf 26 = .ok (.iconst 0, 1) := by decide +kernel
theorem dX12_travelOf_27 : decode cX12_travelOf 27 = .ok (.goto 11, 3) := by decide +kernel
theorem dX12_travelOf_30 : decode cX12_travelOf 30 = .ok (.iload_n 2, 1) := by decide +kernel
theorem dX12_travelOf_31 : decode cX12_travelOf 31 = .ok (.aload_n 0, 1) := by decide +kernel
theorem dX12_travelOf_32 : decode cX12_travelOf 32 = .ok (.getfield 27, 3) := by decide +kernel
theorem dX12_travelOf_35 : decode cX12_travelOf 35 = .ok (.iload_n 1, 1) := by decide +kernel
theorem dX12_travelOf_36 : decode cX12_travelOf 36 = .ok (.iaload, 1) := by decide +kernel
theorem dX12_travelOf_37 : decode cX12_travelOf 37 = .ok (.isub, 1) := by decide +kernel
theorem dX12_travelOf_38 : decode cX12_travelOf 38 = .ok (.ireturn, 1) := by decide +kernel
theorem dX12_travel_0 : decode cX12_travel 0 = .ok (.aload_n 0, 1) := by decide +kernel
theorem dX12_travel_1 : decode cX12_travel 1 = .ok (.aload_n 0, 1) := by decide +kernel
theorem dX12_travel_2 : decode cX12_travel 2 = .ok (.getfield 93, 3) := by decide +kernel
theorem dX12_travel_5 : decode cX12_travel 5 = .ok (.aload_n 0, 1) := by decide +kernel
theorem dX12_travel_6 : decode cX12_travel 6 = .ok (.getfield 96, 3) := by decide +kernel
theorem dX12_travel_9 : decode cX12_travel 9 = .ok (.invokevirtual 105, 3) := by decide +kernel
theorem dX12_travel_12 : decode cX12_travel 12 = .ok (.aload_n 0, 1) := by decide +kernel
theorem dX12_travel_13 : decode cX12_travel 13 = .ok (.aload_n 0, 1) := by decide +kernel
theorem dX12_travel_14 : decode cX12_travel 14 = .ok (.getfield 99, 3) := by decide +kernel
theorem dX12_travel_17 : decode cX12_travel 17 = .ok (.aload_n 0, 1) := by decide +kernel
theorem dX12_travel_18 : decode cX12_travel 18 = .ok (.getfield 102, 3) := by decide +kernel
theorem dX12_travel_21 : decode cX12_travel 21 = .ok (.invokevirtual 105, 3) := by decide +kernel
theorem dX12_travel_24 : decode cX12_travel 24 = .ok (.iadd, 1) := by decide +kernel
theorem dX12_travel_25 : decode cX12_travel 25 = .ok (.ireturn, 1) := by decide +kernel
theorem dX12_moveOf_0 : decode cX12_moveOf 0 = .ok (.iload_n 1, 1) := by decide +kernel
theorem dX12_moveOf_1 : decode cX12_moveOf 1 = .ok (.aload_n 0, 1) := by decide +kernel
theorem dX12_moveOf_2 : decode cX12_moveOf 2 = .ok (.getfield 93, 3) := by decide +kernel
theorem dX12_moveOf_5 : decode cX12_moveOf 5 = .ok (.if_icmp .ne 8, 3) := by decide +kernel
theorem dX12_moveOf_8 : decode cX12_moveOf 8 = .ok (.aload_n 0, 1) := by decide +kernel
theorem dX12_moveOf_9 : decode cX12_moveOf 9 = .ok (.getfield 96, 3) := by decide +kernel
theorem dX12_moveOf_12 : decode cX12_moveOf 12 = .ok (.ireturn, 1) := by decide +kernel
theorem dX12_moveOf_13 : decode cX12_moveOf 13 = .ok (.iload_n 1, 1) := by decide +kernel
theorem dX12_moveOf_14 : decode cX12_moveOf 14 = .ok (.aload_n 0, 1) := by decide +kernel
theorem dX12_moveOf_15 : decode cX12_moveOf 15 = .ok (.getfield 99, 3) := by decide +kernel
theorem dX12_moveOf_18 : decode cX12_moveOf 18 = .ok (.if_icmp .ne 8, 3) := by decide +kernel
theorem dX12_moveOf_21 : decode cX12_moveOf 21 = .ok (.aload_n 0, 1) := by decide +kernel
theorem dX12_moveOf_22 : decode cX12_moveOf 22 = .ok (.getfield 102, 3) := by decide +kernel
theorem dX12_moveOf_25 : decode cX12_moveOf 25 = .ok (.ireturn, 1) := by decide +kernel
theorem dX12_moveOf_26 : decode cX12_moveOf 26 = .ok (.aload_n 0, 1) := by decide +kernel
theorem dX12_moveOf_27 : decode cX12_moveOf 27 = .ok (.invokevirtual 108, 3) := by decide +kernel
theorem dX12_moveOf_30 : decode cX12_moveOf 30 = .ok (.aload_n 0, 1) := by decide +kernel
theorem dX12_moveOf_31 : decode cX12_moveOf 31 = .ok (.getfield 27, 3) := by decide +kernel
theorem dX12_moveOf_34 : decode cX12_moveOf 34 = .ok (.iload_n 1, 1) := by decide +kernel
theorem dX12_moveOf_35 : decode cX12_moveOf 35 = .ok (.iaload, 1) := by decide +kernel
theorem dX12_moveOf_36 : decode cX12_moveOf 36 = .ok (.isub, 1) := by decide +kernel
theorem dX12_moveOf_37 : decode cX12_moveOf 37 = .ok (.istore_n 2, 1) := by decide +kernel
theorem dX12_moveOf_38 : decode cX12_moveOf 38 = .ok (.iload_n 2, 1) := by decide +kernel
theorem dX12_moveOf_39 : decode cX12_moveOf 39 = .ok (.ifCond .lt 14, 3) := by decide +kernel
theorem dX12_moveOf_42 : decode cX12_moveOf 42 = .ok (.aload_n 0, 1) := by decide +kernel
theorem dX12_moveOf_43 : decode cX12_moveOf 43 = .ok (.getfield 89, 3) := by decide +kernel
theorem dX12_moveOf_46 : decode cX12_moveOf 46 = .ok (.iload_n 1, 1) := by decide +kernel
theorem dX12_moveOf_47 : decode cX12_moveOf 47 = .ok (.ishr, 1) := by decide +kernel
theorem dX12_moveOf_48 : decode cX12_moveOf 48 = .ok (.iconst 1, 1) := by decide +kernel
theorem dX12_moveOf_49 : decode cX12_moveOf 49 = .ok (.iand, 1) := by decide +kernel
theorem dX12_moveOf_50 : decode cX12_moveOf 50 = .ok (.ifCond .ne 7, 3) := by decide +kernel
theorem dX12_moveOf_53 : decode cX12_moveOf 53 = .ok (.iconst 0, 1) := by decide +kernel
theorem dX12_moveOf_54 : decode cX12_moveOf 54 = .ok (.goto 4, 3) := by decide +kernel
theorem dX12_moveOf_57 : decode cX12_moveOf 57 = .ok (.iload_n 2, 1) := by decide +kernel
theorem dX12_moveOf_58 : decode cX12_moveOf 58 = .ok (.ireturn, 1) := by decide +kernel
theorem dX12_behind_0 : decode cX12_behind 0 = .ok (.iconst 0, 1) := by decide +kernel
theorem dX12_behind_1 : decode cX12_behind 1 = .ok (.istore_n 2, 1) := by decide +kernel
theorem dX12_behind_2 : decode cX12_behind 2 = .ok (.iconst 0, 1) := by decide +kernel
theorem dX12_behind_3 : decode cX12_behind 3 = .ok (.istore_n 3, 1) := by decide +kernel
theorem dX12_behind_4 : decode cX12_behind 4 = .ok (.iload_n 3, 1) := by decide +kernel
theorem dX12_behind_5 : decode cX12_behind 5 = .ok (.aload_n 0, 1) := by decide +kernel
theorem dX12_behind_6 : decode cX12_behind 6 = .ok (.invokevirtual 48, 3) := by decide +kernel
theorem dX12_behind_9 : decode cX12_behind 9 = .ok (.if_icmp .ge 194, 3) := by decide +kernel
theorem dX12_behind_12 : decode cX12_behind 12 = .ok (.iload_n 1, 1) := by decide +kernel
theorem dX12_behind_13 : decode cX12_behind 13 = .ok (.iload_n 3, 1) := by decide +kernel
theorem dX12_behind_14 : decode cX12_behind 14 = .ok (.ishr, 1) := by decide +kernel
theorem dX12_behind_15 : decode cX12_behind 15 = .ok (.iconst 1, 1) := by decide +kernel
theorem dX12_behind_16 : decode cX12_behind 16 = .ok (.iand, 1) := by decide +kernel
theorem dX12_behind_17 : decode cX12_behind 17 = .ok (.iconst 1, 1) := by decide +kernel
theorem dX12_behind_18 : decode cX12_behind 18 = .ok (.if_icmp .ne 7, 3) := by decide +kernel
theorem dX12_behind_21 : decode cX12_behind 21 = .ok (.iconst 1, 1) := by decide +kernel
theorem dX12_behind_22 : decode cX12_behind 22 = .ok (.goto 4, 3) := by decide +kernel
theorem dX12_behind_25 : decode cX12_behind 25 = .ok (.iconst 0, 1) := by decide +kernel
theorem dX12_behind_26 : decode cX12_behind 26 = .ok (.istore 4, 2) := by decide +kernel
theorem dX12_behind_28 : decode cX12_behind 28 = .ok (.aload_n 0, 1) := by decide +kernel
theorem dX12_behind_29 : decode cX12_behind 29 = .ok (.iload_n 3, 1) := by decide +kernel
theorem dX12_behind_30 : decode cX12_behind 30 = .ok (.invokevirtual 111, 3) := by decide +kernel
theorem dX12_behind_33 : decode cX12_behind 33 = .ok (.istore 5, 2) := by decide +kernel
theorem dX12_behind_35 : decode cX12_behind 35 = .ok (.iload 5, 2) := by decide +kernel
theorem dX12_behind_37 : decode cX12_behind 37 = .ok (.aload_n 0, 1) := by decide +kernel
theorem dX12_behind_38 : decode cX12_behind 38 = .ok (.iload_n 3, 1) := by decide +kernel
theorem dX12_behind_39 : decode cX12_behind 39 = .ok (.iconst 2, 1) := by decide +kernel
theorem dX12_behind_40 : decode cX12_behind 40 = .ok (.invokevirtual 75, 3) := by decide +kernel
theorem dX12_behind_43 : decode cX12_behind 43 = .ok (.if_icmp .lt 7, 3) := by decide +kernel
theorem dX12_behind_46 : decode cX12_behind 46 = .ok (.iconst 1, 1) := by decide +kernel
theorem dX12_behind_47 : decode cX12_behind 47 = .ok (.goto 4, 3) := by decide +kernel
theorem dX12_behind_50 : decode cX12_behind 50 = .ok (.iconst 0, 1) := by decide +kernel
theorem dX12_behind_51 : decode cX12_behind 51 = .ok (.istore 6, 2) := by decide +kernel
theorem dX12_behind_53 : decode cX12_behind 53 = .ok (.iload 6, 2) := by decide +kernel
theorem dX12_behind_55 : decode cX12_behind 55 = .ok (.istore 7, 2) := by decide +kernel
theorem dX12_behind_57 : decode cX12_behind 57 = .ok (.aload_n 0, 1) := by decide +kernel
theorem dX12_behind_58 : decode cX12_behind 58 = .ok (.iload_n 3, 1) := by decide +kernel
theorem dX12_behind_59 : decode cX12_behind 59 = .ok (.iconst 0, 1) := by decide +kernel
theorem dX12_behind_60 : decode cX12_behind 60 = .ok (.invokevirtual 75, 3) := by decide +kernel
theorem dX12_behind_63 : decode cX12_behind 63 = .ok (.tableswitch 119 1 4 #[29, 49, 69, 86], 29) := by decide +kernel
theorem dX12_behind_92 : decode cX12_behind 92 = .ok (.iload 4, 2) := by decide +kernel
theorem dX12_behind_94 : decode cX12_behind 94 = .ok (.ifCond .ne 8, 3) := by decide +kernel
theorem dX12_behind_97 : decode cX12_behind 97 = .ok (.iload 6, 2) := by decide +kernel
theorem dX12_behind_99 : decode cX12_behind 99 = .ok (.ifCond .eq 7, 3) := by decide +kernel
theorem dX12_behind_102 : decode cX12_behind 102 = .ok (.iconst 1, 1) := by decide +kernel
theorem dX12_behind_103 : decode cX12_behind 103 = .ok (.goto 4, 3) := by decide +kernel
theorem dX12_behind_106 : decode cX12_behind 106 = .ok (.iconst 0, 1) := by decide +kernel
theorem dX12_behind_107 : decode cX12_behind 107 = .ok (.istore 7, 2) := by decide +kernel
theorem dX12_behind_109 : decode cX12_behind 109 = .ok (.goto 73, 3) := by decide +kernel
theorem dX12_behind_112 : decode cX12_behind 112 = .ok (.iload 4, 2) := by decide +kernel
theorem dX12_behind_114 : decode cX12_behind 114 = .ok (.ifCond .eq 12, 3) := by decide +kernel
theorem dX12_behind_117 : decode cX12_behind 117 = .ok (.iload 6, 2) := by decide +kernel
theorem dX12_behind_119 : decode cX12_behind 119 = .ok (.ifCond .ne 7, 3) := by decide +kernel
theorem dX12_behind_122 : decode cX12_behind 122 = .ok (.iconst 1, 1) := by decide +kernel
theorem dX12_behind_123 : decode cX12_behind 123 = .ok (.goto 4, 3) := by decide +kernel
theorem dX12_behind_126 : decode cX12_behind 126 = .ok (.iconst 0, 1) := by decide +kernel
theorem dX12_behind_127 : decode cX12_behind 127 = .ok (.istore 7, 2) := by decide +kernel
theorem dX12_behind_129 : decode cX12_behind 129 = .ok (.goto 53, 3) := by decide +kernel
theorem dX12_behind_132 : decode cX12_behind 132 = .ok (.iload 6, 2) := by decide +kernel
theorem dX12_behind_134 : decode cX12_behind 134 = .ok (.iload 4, 2) := by decide +kernel
theorem dX12_behind_136 : decode cX12_behind 136 = .ok (.if_icmp .eq 7, 3) := by decide +kernel
theorem dX12_behind_139 : decode cX12_behind 139 = .ok (.iconst 1, 1) := by decide +kernel
theorem dX12_behind_140 : decode cX12_behind 140 = .ok (.goto 4, 3) := by decide +kernel
theorem dX12_behind_143 : decode cX12_behind 143 = .ok (.iconst 0, 1) := by decide +kernel
theorem dX12_behind_144 : decode cX12_behind 144 = .ok (.istore 7, 2) := by decide +kernel
theorem dX12_behind_146 : decode cX12_behind 146 = .ok (.goto 36, 3) := by decide +kernel
theorem dX12_behind_149 : decode cX12_behind 149 = .ok (.iload 4, 2) := by decide +kernel
theorem dX12_behind_151 : decode cX12_behind 151 = .ok (.ifCond .ne 8, 3) := by decide +kernel
theorem dX12_behind_154 : decode cX12_behind 154 = .ok (.iload 6, 2) := by decide +kernel
theorem dX12_behind_156 : decode cX12_behind 156 = .ok (.ifCond .eq 20, 3) := by decide +kernel
theorem dX12_behind_159 : decode cX12_behind 159 = .ok (.iload 5, 2) := by decide +kernel
theorem dX12_behind_161 : decode cX12_behind 161 = .ok (.aload_n 0, 1) := by decide +kernel
theorem dX12_behind_162 : decode cX12_behind 162 = .ok (.iload_n 3, 1) := by decide +kernel
theorem dX12_behind_163 : decode cX12_behind 163 = .ok (.iconst 2, 1) := by decide +kernel
theorem dX12_behind_164 : decode cX12_behind 164 = .ok (.invokevirtual 75, 3) := by decide +kernel
theorem dX12_behind_167 : decode cX12_behind 167 = .ok (.iconst 3, 1) := by decide +kernel
theorem dX12_behind_168 : decode cX12_behind 168 = .ok (.iadd, 1) := by decide +kernel
theorem dX12_behind_169 : decode cX12_behind 169 = .ok (.if_icmp .ge 7, 3) := by decide +kernel
theorem dX12_behind_172 : decode cX12_behind 172 = .ok (.iconst 1, 1) := by decide +kernel
theorem dX12_behind_173 : decode cX12_behind 173 = .ok (.goto 4, 3) := by decide +kernel
theorem dX12_behind_176 : decode cX12_behind 176 = .ok (.iconst 0, 1) := by decide +kernel
theorem dX12_behind_177 : decode cX12_behind 177 = .ok (.istore 7, 2) := by decide +kernel
theorem dX12_behind_179 : decode cX12_behind 179 = .ok (.goto 3, 3) := by decide +kernel
theorem dX12_behind_182 : decode cX12_behind 182 = .ok (.iload_n 2, 1) := by decide +kernel
theorem dX12_behind_183 : decode cX12_behind 183 = .ok (.iload 7, 2) := by decide +kernel
theorem dX12_behind_185 : decode cX12_behind 185 = .ok (.ifCond .eq 9, 3) := by decide +kernel
theorem dX12_behind_188 : decode cX12_behind 188 = .ok (.iconst 1, 1) := by decide +kernel
theorem dX12_behind_189 : decode cX12_behind 189 = .ok (.iload_n 3, 1) := by decide +kernel
theorem dX12_behind_190 : decode cX12_behind 190 = .ok (.ishl, 1) := by decide +kernel
theorem dX12_behind_191 : decode cX12_behind 191 = .ok (.goto 4, 3) := by decide +kernel
theorem dX12_behind_194 : decode cX12_behind 194 = .ok (.iconst 0, 1) := by decide +kernel
theorem dX12_behind_195 : decode cX12_behind 195 = .ok (.ior, 1) := by decide +kernel
theorem dX12_behind_196 : decode cX12_behind 196 = .ok (.istore_n 2, 1) := by decide +kernel
theorem dX12_behind_197 : decode cX12_behind 197 = .ok (.iinc 3 1, 3) := by decide +kernel
theorem dX12_behind_200 : decode cX12_behind 200 = .ok (.goto (-196), 3) := by decide +kernel
theorem dX12_behind_203 : decode cX12_behind 203 = .ok (.iload_n 2, 1) := by decide +kernel
theorem dX12_behind_204 : decode cX12_behind 204 = .ok (.ireturn, 1) := by decide +kernel
theorem dX12_harmOf_0 : decode cX12_harmOf 0 = .ok (.iconst 0, 1) := by decide +kernel
theorem dX12_harmOf_1 : decode cX12_harmOf 1 = .ok (.istore_n 2, 1) := by decide +kernel
theorem dX12_harmOf_2 : decode cX12_harmOf 2 = .ok (.iconst 0, 1) := by decide +kernel
theorem dX12_harmOf_3 : decode cX12_harmOf 3 = .ok (.istore_n 3, 1) := by decide +kernel
theorem dX12_harmOf_4 : decode cX12_harmOf 4 = .ok (.iload_n 3, 1) := by decide +kernel
theorem dX12_harmOf_5 : decode cX12_harmOf 5 = .ok (.aload_n 0, 1) := by decide +kernel
theorem dX12_harmOf_6 : decode cX12_harmOf 6 = .ok (.invokevirtual 48, 3) := by decide +kernel
theorem dX12_harmOf_9 : decode cX12_harmOf 9 = .ok (.if_icmp .ge 24, 3) := by decide +kernel
theorem dX12_harmOf_12 : decode cX12_harmOf 12 = .ok (.iload_n 2, 1) := by decide +kernel
theorem dX12_harmOf_13 : decode cX12_harmOf 13 = .ok (.iload_n 1, 1) := by decide +kernel
theorem dX12_harmOf_14 : decode cX12_harmOf 14 = .ok (.iload_n 3, 1) := by decide +kernel
theorem dX12_harmOf_15 : decode cX12_harmOf 15 = .ok (.ishr, 1) := by decide +kernel
theorem dX12_harmOf_16 : decode cX12_harmOf 16 = .ok (.iconst 1, 1) := by decide +kernel
theorem dX12_harmOf_17 : decode cX12_harmOf 17 = .ok (.iand, 1) := by decide +kernel
theorem dX12_harmOf_18 : decode cX12_harmOf 18 = .ok (.aload_n 0, 1) := by decide +kernel
theorem dX12_harmOf_19 : decode cX12_harmOf 19 = .ok (.iload_n 3, 1) := by decide +kernel
theorem dX12_harmOf_20 : decode cX12_harmOf 20 = .ok (.iconst 3, 1) := by decide +kernel
theorem dX12_harmOf_21 : decode cX12_harmOf 21 = .ok (.invokevirtual 75, 3) := by decide +kernel
theorem dX12_harmOf_24 : decode cX12_harmOf 24 = .ok (.imul, 1) := by decide +kernel
theorem dX12_harmOf_25 : decode cX12_harmOf 25 = .ok (.iadd, 1) := by decide +kernel
theorem dX12_harmOf_26 : decode cX12_harmOf 26 = .ok (.istore_n 2, 1) := by decide +kernel
theorem dX12_harmOf_27 : decode cX12_harmOf 27 = .ok (.iinc 3 1, 3) := by decide +kernel
theorem dX12_harmOf_30 : decode cX12_harmOf 30 = .ok (.goto (-26), 3) := by decide +kernel
theorem dX12_harmOf_33 : decode cX12_harmOf 33 = .ok (.iload_n 2, 1) := by decide +kernel
theorem dX12_harmOf_34 : decode cX12_harmOf 34 = .ok (.ireturn, 1) := by decide +kernel
theorem dX12_goPull_0 : decode cX12_goPull 0 = .ok (.aload_n 0, 1) := by decide +kernel
theorem dX12_goPull_1 : decode cX12_goPull 1 = .ok (.getfield 7, 3) := by decide +kernel
theorem dX12_goPull_4 : decode cX12_goPull 4 = .ok (.bipush 52, 2) := by decide +kernel
theorem dX12_goPull_6 : decode cX12_goPull 6 = .ok (.iaload, 1) := by decide +kernel
theorem dX12_goPull_7 : decode cX12_goPull 7 = .ok (.bipush 10, 2) := by decide +kernel
theorem dX12_goPull_9 : decode cX12_goPull 9 = .ok (.if_icmp .ne 46, 3) := by decide +kernel
theorem dX12_goPull_12 : decode cX12_goPull 12 = .ok (.iconst 0, 1) := by decide +kernel
theorem dX12_goPull_13 : decode cX12_goPull 13 = .ok (.istore_n 1, 1) := by decide +kernel
theorem dX12_goPull_14 : decode cX12_goPull 14 = .ok (.iload_n 1, 1) := by decide +kernel
theorem dX12_goPull_15 : decode cX12_goPull 15 = .ok (.bipush 9, 2) := by decide +kernel
theorem dX12_goPull_17 : decode cX12_goPull 17 = .ok (.if_icmp .ge 29, 3) := by decide +kernel
theorem dX12_goPull_20 : decode cX12_goPull 20 = .ok (.aload_n 0, 1) := by decide +kernel
theorem dX12_goPull_21 : decode cX12_goPull 21 = .ok (.getfield 7, 3) := by decide +kernel
theorem dX12_goPull_24 : decode cX12_goPull 24 = .ok (.bipush 53, 2) := by decide +kernel
theorem dX12_goPull_26 : decode cX12_goPull 26 = .ok (.iload_n 1, 1) := by decide +kernel
theorem dX12_goPull_27 : decode cX12_goPull 27 = .ok (.iadd, 1) := by decide +kernel
theorem dX12_goPull_28 : decode cX12_goPull 28 = .ok (.aload_n 0, 1) := by decide +kernel
theorem dX12_goPull_29 : decode cX12_goPull 29 = .ok (.getfield 7, 3) := by decide +kernel
theorem dX12_goPull_32 : decode cX12_goPull 32 = .ok (.bipush 53, 2) := by decide +kernel
theorem dX12_goPull_34 : decode cX12_goPull 34 = .ok (.iload_n 1, 1) := by decide +kernel
theorem dX12_goPull_35 : decode cX12_goPull 35 = .ok (.iadd, 1) := by decide +kernel
theorem dX12_goPull_36 : decode cX12_goPull 36 = .ok (.iconst 1, 1) := by decide +kernel
theorem dX12_goPull_37 : decode cX12_goPull 37 = .ok (.iadd, 1) := by decide +kernel
theorem dX12_goPull_38 : decode cX12_goPull 38 = .ok (.iaload, 1) := by decide +kernel
theorem dX12_goPull_39 : decode cX12_goPull 39 = .ok (.iastore, 1) := by decide +kernel
theorem dX12_goPull_40 : decode cX12_goPull 40 = .ok (.iinc 1 1, 3) := by decide +kernel
theorem dX12_goPull_43 : decode cX12_goPull 43 = .ok (.goto (-29), 3) := by decide +kernel
theorem dX12_goPull_46 : decode cX12_goPull 46 = .ok (.aload_n 0, 1) := by decide +kernel
theorem dX12_goPull_47 : decode cX12_goPull 47 = .ok (.getfield 7, 3) := by decide +kernel
theorem dX12_goPull_50 : decode cX12_goPull 50 = .ok (.bipush 52, 2) := by decide +kernel
theorem dX12_goPull_52 : decode cX12_goPull 52 = .ok (.bipush 9, 2) := by decide +kernel
theorem dX12_goPull_54 : decode cX12_goPull 54 = .ok (.iastore, 1) := by decide +kernel
theorem dX12_goPull_55 : decode cX12_goPull 55 = .ok (.aload_n 0, 1) := by decide +kernel
theorem dX12_goPull_56 : decode cX12_goPull 56 = .ok (.getfield 7, 3) := by decide +kernel
theorem dX12_goPull_59 : decode cX12_goPull 59 = .ok (.bipush 53, 2) := by decide +kernel
theorem dX12_goPull_61 : decode cX12_goPull 61 = .ok (.aload_n 0, 1) := by decide +kernel
theorem dX12_goPull_62 : decode cX12_goPull 62 = .ok (.getfield 7, 3) := by decide +kernel
theorem dX12_goPull_65 : decode cX12_goPull 65 = .ok (.bipush 52, 2) := by decide +kernel
theorem dX12_goPull_67 : decode cX12_goPull 67 = .ok (.iaload, 1) := by decide +kernel
theorem dX12_goPull_68 : decode cX12_goPull 68 = .ok (.iadd, 1) := by decide +kernel
theorem dX12_goPull_69 : decode cX12_goPull 69 = .ok (.aload_n 0, 1) := by decide +kernel
theorem dX12_goPull_70 : decode cX12_goPull 70 = .ok (.getfield 7, 3) := by decide +kernel
theorem dX12_goPull_73 : decode cX12_goPull 73 = .ok (.bipush 27, 2) := by decide +kernel
theorem dX12_goPull_75 : decode cX12_goPull 75 = .ok (.iaload, 1) := by decide +kernel
theorem dX12_goPull_76 : decode cX12_goPull 76 = .ok (.iastore, 1) := by decide +kernel
theorem dX12_goPull_77 : decode cX12_goPull 77 = .ok (.aload_n 0, 1) := by decide +kernel
theorem dX12_goPull_78 : decode cX12_goPull 78 = .ok (.getfield 7, 3) := by decide +kernel
theorem dX12_goPull_81 : decode cX12_goPull 81 = .ok (.bipush 52, 2) := by decide +kernel
theorem dX12_goPull_83 : decode cX12_goPull 83 = .ok (.dup2, 1) := by decide +kernel
theorem dX12_goPull_84 : decode cX12_goPull 84 = .ok (.iaload, 1) := by decide +kernel
theorem dX12_goPull_85 : decode cX12_goPull 85 = .ok (.iconst 1, 1) := by decide +kernel
theorem dX12_goPull_86 : decode cX12_goPull 86 = .ok (.iadd, 1) := by decide +kernel
theorem dX12_goPull_87 : decode cX12_goPull 87 = .ok (.iastore, 1) := by decide +kernel
theorem dX12_goPull_88 : decode cX12_goPull 88 = .ok (.aload_n 0, 1) := by decide +kernel
theorem dX12_goPull_89 : decode cX12_goPull 89 = .ok (.getfield 7, 3) := by decide +kernel
theorem dX12_goPull_92 : decode cX12_goPull 92 = .ok (.bipush 27, 2) := by decide +kernel
theorem dX12_goPull_94 : decode cX12_goPull 94 = .ok (.aload_n 0, 1) := by decide +kernel
theorem dX12_goPull_95 : decode cX12_goPull 95 = .ok (.aload_n 0, 1) := by decide +kernel
theorem dX12_goPull_96 : decode cX12_goPull 96 = .ok (.getfield 7, 3) := by decide +kernel
theorem dX12_goPull_99 : decode cX12_goPull 99 = .ok (.bipush 27, 2) := by decide +kernel
theorem dX12_goPull_101 : decode cX12_goPull 101 = .ok (.iaload, 1) := by decide +kernel
theorem dX12_goPull_102 : decode cX12_goPull 102 = .ok (.invokevirtual 114, 3) := by decide +kernel
theorem dX12_goPull_105 : decode cX12_goPull 105 = .ok (.iastore, 1) := by decide +kernel
theorem dX12_goPull_106 : decode cX12_goPull 106 = .ok (.aload_n 0, 1) := by decide +kernel
theorem dX12_goPull_107 : decode cX12_goPull 107 = .ok (.invokevirtual 108, 3) := by decide +kernel
theorem dX12_goPull_110 : decode cX12_goPull 110 = .ok (.iconst 3, 1) := by decide +kernel
theorem dX12_goPull_111 : decode cX12_goPull 111 = .ok (.idiv, 1) := by decide +kernel
theorem dX12_goPull_112 : decode cX12_goPull 112 = .ok (.ireturn, 1) := by decide +kernel
theorem dX12_isPull_0 : decode cX12_isPull 0 = .ok (.aload_n 0, 1) := by decide +kernel
theorem dX12_isPull_1 : decode cX12_isPull 1 = .ok (.iload_n 1, 1) := by decide +kernel
theorem dX12_isPull_2 : decode cX12_isPull 2 = .ok (.invokevirtual 71, 3) := by decide +kernel
theorem dX12_isPull_5 : decode cX12_isPull 5 = .ok (.ifCond .eq 19, 3) := by decide +kernel
theorem dX12_isPull_8 : decode cX12_isPull 8 = .ok (.iload_n 2, 1) := by decide +kernel
theorem dX12_isPull_9 : decode cX12_isPull 9 = .ok (.i2l, 1) := by decide +kernel
theorem dX12_isPull_10 : decode cX12_isPull 10 = .ok (.lconst 0, 1) := by decide +kernel
theorem dX12_isPull_11 : decode cX12_isPull 11 = .ok (.ldc2_w 117, 3) := by decide +kernel
theorem dX12_isPull_14 : decode cX12_isPull 14 = .ok (.invokestatic 52, 3) := by decide +kernel
theorem dX12_isPull_17 : decode cX12_isPull 17 = .ok (.ifCond .eq 7, 3) := by decide +kernel
theorem dX12_isPull_20 : decode cX12_isPull 20 = .ok (.iconst 1, 1) := by decide +kernel
theorem dX12_isPull_21 : decode cX12_isPull 21 = .ok (.goto 4, 3) := by decide +kernel
theorem dX12_isPull_24 : decode cX12_isPull 24 = .ok (.iconst 0, 1) := by decide +kernel
theorem dX12_isPull_25 : decode cX12_isPull 25 = .ok (.ireturn, 1) := by decide +kernel
theorem dX12_pull_0 : decode cX12_pull 0 = .ok (.aload_n 0, 1) := by decide +kernel
theorem dX12_pull_1 : decode cX12_pull 1 = .ok (.iload_n 1, 1) := by decide +kernel
theorem dX12_pull_2 : decode cX12_pull 2 = .ok (.iload_n 2, 1) := by decide +kernel
theorem dX12_pull_3 : decode cX12_pull 3 = .ok (.invokevirtual 119, 3) := by decide +kernel
theorem dX12_pull_6 : decode cX12_pull 6 = .ok (.ifCond .ne 10, 3) := by decide +kernel
theorem dX12_pull_9 : decode cX12_pull 9 = .ok (.aload_n 0, 1) := by decide +kernel
theorem dX12_pull_10 : decode cX12_pull 10 = .ok (.bipush (-2), 2) := by decide +kernel
theorem dX12_pull_12 : decode cX12_pull 12 = .ok (.invokevirtual 60, 3) := by decide +kernel
theorem dX12_pull_15 : decode cX12_pull 15 = .ok (.ireturn, 1) := by decide +kernel
theorem dX12_pull_16 : decode cX12_pull 16 = .ok (.aload_n 0, 1) := by decide +kernel
theorem dX12_pull_17 : decode cX12_pull 17 = .ok (.invokevirtual 123, 3) := by decide +kernel
theorem dX12_pull_20 : decode cX12_pull 20 = .ok (.aload_n 0, 1) := by decide +kernel
theorem dX12_pull_21 : decode cX12_pull 21 = .ok (.iload_n 1, 1) := by decide +kernel
theorem dX12_pull_22 : decode cX12_pull 22 = .ok (.iload_n 2, 1) := by decide +kernel
theorem dX12_pull_23 : decode cX12_pull 23 = .ok (.invokevirtual 126, 3) := by decide +kernel
theorem dX12_pull_26 : decode cX12_pull 26 = .ok (.aload_n 0, 1) := by decide +kernel
theorem dX12_pull_27 : decode cX12_pull 27 = .ok (.invokevirtual 130, 3) := by decide +kernel
theorem dX12_pull_30 : decode cX12_pull 30 = .ok (.ireturn, 1) := by decide +kernel
theorem dX12_both_0 : decode cX12_both 0 = .ok (.aload_n 0, 1) := by decide +kernel
theorem dX12_both_1 : decode cX12_both 1 = .ok (.iload_n 1, 1) := by decide +kernel
theorem dX12_both_2 : decode cX12_both 2 = .ok (.iload_n 2, 1) := by decide +kernel
theorem dX12_both_3 : decode cX12_both 3 = .ok (.invokevirtual 119, 3) := by decide +kernel
theorem dX12_both_6 : decode cX12_both 6 = .ok (.ifCond .eq 18, 3) := by decide +kernel
theorem dX12_both_9 : decode cX12_both 9 = .ok (.aload_n 0, 1) := by decide +kernel
theorem dX12_both_10 : decode cX12_both 10 = .ok (.iload_n 3, 1) := by decide +kernel
theorem dX12_both_11 : decode cX12_both 11 = .ok (.iload 4, 2) := by decide +kernel
theorem dX12_both_13 : decode cX12_both 13 = .ok (.invokevirtual 119, 3) := by decide +kernel
theorem dX12_both_16 : decode cX12_both 16 = .ok (.ifCond .eq 8, 3) := by decide +kernel
theorem dX12_both_19 : decode cX12_both 19 = .ok (.iload_n 1, 1) := by decide +kernel
theorem dX12_both_20 : decode cX12_both 20 = .ok (.iload_n 3, 1) := by decide +kernel
theorem dX12_both_21 : decode cX12_both 21 = .ok (.if_icmp .ne 10, 3) := by decide +kernel
theorem dX12_both_24 : decode cX12_both 24 = .ok (.aload_n 0, 1) := by decide +kernel
theorem dX12_both_25 : decode cX12_both 25 = .ok (.bipush (-2), 2) := by decide +kernel
theorem dX12_both_27 : decode cX12_both 27 = .ok (.invokevirtual 60, 3) := by decide +kernel
theorem dX12_both_30 : decode cX12_both 30 = .ok (.ireturn, 1) := by decide +kernel
theorem dX12_both_31 : decode cX12_both 31 = .ok (.aload_n 0, 1) := by decide +kernel
theorem dX12_both_32 : decode cX12_both 32 = .ok (.invokevirtual 123, 3) := by decide +kernel
theorem dX12_both_35 : decode cX12_both 35 = .ok (.aload_n 0, 1) := by decide +kernel
theorem dX12_both_36 : decode cX12_both 36 = .ok (.iload_n 1, 1) := by decide +kernel
theorem dX12_both_37 : decode cX12_both 37 = .ok (.iload_n 2, 1) := by decide +kernel
theorem dX12_both_38 : decode cX12_both 38 = .ok (.invokevirtual 126, 3) := by decide +kernel
theorem dX12_both_41 : decode cX12_both 41 = .ok (.aload_n 0, 1) := by decide +kernel
theorem dX12_both_42 : decode cX12_both 42 = .ok (.iload_n 3, 1) := by decide +kernel
theorem dX12_both_43 : decode cX12_both 43 = .ok (.putfield 99, 3) := by decide +kernel
theorem dX12_both_46 : decode cX12_both 46 = .ok (.aload_n 0, 1) := by decide +kernel
theorem dX12_both_47 : decode cX12_both 47 = .ok (.iload 4, 2) := by decide +kernel
theorem dX12_both_49 : decode cX12_both 49 = .ok (.putfield 102, 3) := by decide +kernel
theorem dX12_both_52 : decode cX12_both 52 = .ok (.aload_n 0, 1) := by decide +kernel
theorem dX12_both_53 : decode cX12_both 53 = .ok (.invokevirtual 130, 3) := by decide +kernel
theorem dX12_both_56 : decode cX12_both 56 = .ok (.ireturn, 1) := by decide +kernel
theorem dX12_would_0 : decode cX12_would 0 = .ok (.aload_n 0, 1) := by decide +kernel
theorem dX12_would_1 : decode cX12_would 1 = .ok (.iload_n 1, 1) := by decide +kernel
theorem dX12_would_2 : decode cX12_would 2 = .ok (.iload_n 2, 1) := by decide +kernel
theorem dX12_would_3 : decode cX12_would 3 = .ok (.invokevirtual 119, 3) := by decide +kernel
theorem dX12_would_6 : decode cX12_would 6 = .ok (.ifCond .ne 10, 3) := by decide +kernel
theorem dX12_would_9 : decode cX12_would 9 = .ok (.aload_n 0, 1) := by decide +kernel
theorem dX12_would_10 : decode cX12_would 10 = .ok (.bipush (-2), 2) := by decide +kernel
theorem dX12_would_12 : decode cX12_would 12 = .ok (.invokevirtual 60, 3) := by decide +kernel
theorem dX12_would_15 : decode cX12_would 15 = .ok (.ireturn, 1) := by decide +kernel
theorem dX12_would_16 : decode cX12_would 16 = .ok (.aload_n 0, 1) := by decide +kernel
theorem dX12_would_17 : decode cX12_would 17 = .ok (.invokevirtual 123, 3) := by decide +kernel
theorem dX12_would_20 : decode cX12_would 20 = .ok (.aload_n 0, 1) := by decide +kernel
theorem dX12_would_21 : decode cX12_would 21 = .ok (.iload_n 1, 1) := by decide +kernel
theorem dX12_would_22 : decode cX12_would 22 = .ok (.iload_n 2, 1) := by decide +kernel
theorem dX12_would_23 : decode cX12_would 23 = .ok (.invokevirtual 126, 3) := by decide +kernel
theorem dX12_would_26 : decode cX12_would 26 = .ok (.aload_n 0, 1) := by decide +kernel
theorem dX12_would_27 : decode cX12_would 27 = .ok (.aload_n 0, 1) := by decide +kernel
theorem dX12_would_28 : decode cX12_would 28 = .ok (.getfield 7, 3) := by decide +kernel
theorem dX12_would_31 : decode cX12_would 31 = .ok (.bipush 27, 2) := by decide +kernel
theorem dX12_would_33 : decode cX12_would 33 = .ok (.iaload, 1) := by decide +kernel
theorem dX12_would_34 : decode cX12_would 34 = .ok (.invokevirtual 114, 3) := by decide +kernel
theorem dX12_would_37 : decode cX12_would 37 = .ok (.ireturn, 1) := by decide +kernel
theorem dX12_open_0 : decode cX12_open 0 = .ok (.aload_n 0, 1) := by decide +kernel
theorem dX12_open_1 : decode cX12_open 1 = .ok (.getfield 7, 3) := by decide +kernel
theorem dX12_open_4 : decode cX12_open 4 = .ok (.bipush 27, 2) := by decide +kernel
theorem dX12_open_6 : decode cX12_open 6 = .ok (.iaload, 1) := by decide +kernel
theorem dX12_open_7 : decode cX12_open 7 = .ok (.ireturn, 1) := by decide +kernel
theorem dX12_moves_0 : decode cX12_moves 0 = .ok (.aload_n 0, 1) := by decide +kernel
theorem dX12_moves_1 : decode cX12_moves 1 = .ok (.iload_n 1, 1) := by decide +kernel
theorem dX12_moves_2 : decode cX12_moves 2 = .ok (.iload_n 2, 1) := by decide +kernel
theorem dX12_moves_3 : decode cX12_moves 3 = .ok (.invokevirtual 119, 3) := by decide +kernel
theorem dX12_moves_6 : decode cX12_moves 6 = .ok (.ifCond .eq 11, 3) := by decide +kernel
theorem dX12_moves_9 : decode cX12_moves 9 = .ok (.aload_n 0, 1) := by decide +kernel
theorem dX12_moves_10 : decode cX12_moves 10 = .ok (.iload_n 3, 1) := by decide +kernel
theorem dX12_moves_11 : decode cX12_moves 11 = .ok (.invokevirtual 71, 3) := by decide +kernel
theorem dX12_moves_14 : decode cX12_moves 14 = .ok (.ifCond .ne 10, 3) := by decide +kernel
theorem dX12_moves_17 : decode cX12_moves 17 = .ok (.aload_n 0, 1) := by decide +kernel
theorem dX12_moves_18 : decode cX12_moves 18 = .ok (.bipush (-2), 2) := by decide +kernel
theorem dX12_moves_20 : decode cX12_moves 20 = .ok (.invokevirtual 60, 3) := by decide +kernel
theorem dX12_moves_23 : decode cX12_moves 23 = .ok (.ireturn, 1) := by decide +kernel
theorem dX12_moves_24 : decode cX12_moves 24 = .ok (.aload_n 0, 1) := by decide +kernel
theorem dX12_moves_25 : decode cX12_moves 25 = .ok (.invokevirtual 123, 3) := by decide +kernel
theorem dX12_moves_28 : decode cX12_moves 28 = .ok (.aload_n 0, 1) := by decide +kernel
theorem dX12_moves_29 : decode cX12_moves 29 = .ok (.iload_n 1, 1) := by decide +kernel
theorem dX12_moves_30 : decode cX12_moves 30 = .ok (.iload_n 2, 1) := by decide +kernel
theorem dX12_moves_31 : decode cX12_moves 31 = .ok (.invokevirtual 126, 3) := by decide +kernel
theorem dX12_moves_34 : decode cX12_moves 34 = .ok (.aload_n 0, 1) := by decide +kernel
theorem dX12_moves_35 : decode cX12_moves 35 = .ok (.iload_n 3, 1) := by decide +kernel
theorem dX12_moves_36 : decode cX12_moves 36 = .ok (.invokevirtual 111, 3) := by decide +kernel
theorem dX12_moves_39 : decode cX12_moves 39 = .ok (.ireturn, 1) := by decide +kernel
theorem dX12_undo_0 : decode cX12_undo 0 = .ok (.aload_n 0, 1) := by decide +kernel
theorem dX12_undo_1 : decode cX12_undo 1 = .ok (.getfield 7, 3) := by decide +kernel
theorem dX12_undo_4 : decode cX12_undo 4 = .ok (.bipush 52, 2) := by decide +kernel
theorem dX12_undo_6 : decode cX12_undo 6 = .ok (.iaload, 1) := by decide +kernel
theorem dX12_undo_7 : decode cX12_undo 7 = .ok (.ifCond .ne 10, 3) := by decide +kernel
theorem dX12_undo_10 : decode cX12_undo 10 = .ok (.aload_n 0, 1) := by decide +kernel
theorem dX12_undo_11 : decode cX12_undo 11 = .ok (.bipush (-3), 2) := by decide +kernel
theorem dX12_undo_13 : decode cX12_undo 13 = .ok (.invokevirtual 79, 3) := by decide +kernel
theorem dX12_undo_16 : decode cX12_undo 16 = .ok (.ireturn, 1) := by decide +kernel
theorem dX12_undo_17 : decode cX12_undo 17 = .ok (.aload_n 0, 1) := by decide +kernel
theorem dX12_undo_18 : decode cX12_undo 18 = .ok (.getfield 7, 3) := by decide +kernel
theorem dX12_undo_21 : decode cX12_undo 21 = .ok (.bipush 52, 2) := by decide +kernel
theorem dX12_undo_23 : decode cX12_undo 23 = .ok (.dup2, 1) := by decide +kernel
theorem dX12_undo_24 : decode cX12_undo 24 = .ok (.iaload, 1) := by decide +kernel
theorem dX12_undo_25 : decode cX12_undo 25 = .ok (.iconst 1, 1) := by decide +kernel
theorem dX12_undo_26 : decode cX12_undo 26 = .ok (.isub, 1) := by decide +kernel
theorem dX12_undo_27 : decode cX12_undo 27 = .ok (.iastore, 1) := by decide +kernel
theorem dX12_undo_28 : decode cX12_undo 28 = .ok (.aload_n 0, 1) := by decide +kernel
theorem dX12_undo_29 : decode cX12_undo 29 = .ok (.getfield 7, 3) := by decide +kernel
theorem dX12_undo_32 : decode cX12_undo 32 = .ok (.bipush 27, 2) := by decide +kernel
theorem dX12_undo_34 : decode cX12_undo 34 = .ok (.aload_n 0, 1) := by decide +kernel
theorem dX12_undo_35 : decode cX12_undo 35 = .ok (.getfield 7, 3) := by decide +kernel
theorem dX12_undo_38 : decode cX12_undo 38 = .ok (.bipush 53, 2) := by decide +kernel
theorem dX12_undo_40 : decode cX12_undo 40 = .ok (.aload_n 0, 1) := by decide +kernel
theorem dX12_undo_41 : decode cX12_undo 41 = .ok (.getfield 7, 3) := by decide +kernel
theorem dX12_undo_44 : decode cX12_undo 44 = .ok (.bipush 52, 2) := by decide +kernel
theorem dX12_undo_46 : decode cX12_undo 46 = .ok (.iaload, 1) := by decide +kernel
theorem dX12_undo_47 : decode cX12_undo 47 = .ok (.iadd, 1) := by decide +kernel
theorem dX12_undo_48 : decode cX12_undo 48 = .ok (.iaload, 1) := by decide +kernel
theorem dX12_undo_49 : decode cX12_undo 49 = .ok (.iastore, 1) := by decide +kernel
theorem dX12_undo_50 : decode cX12_undo 50 = .ok (.iconst 1, 1) := by decide +kernel
theorem dX12_undo_51 : decode cX12_undo 51 = .ok (.ireturn, 1) := by decide +kernel
theorem dX12_errands_0 : decode cX12_errands 0 = .ok (.aload_n 0, 1) := by decide +kernel
theorem dX12_errands_1 : decode cX12_errands 1 = .ok (.getfield 7, 3) := by decide +kernel
theorem dX12_errands_4 : decode cX12_errands 4 = .ok (.bipush 28, 2) := by decide +kernel
theorem dX12_errands_6 : decode cX12_errands 6 = .ok (.iaload, 1) := by decide +kernel
theorem dX12_errands_7 : decode cX12_errands 7 = .ok (.ireturn, 1) := by decide +kernel
theorem dX12_errand_0 : decode cX12_errand 0 = .ok (.aload_n 0, 1) := by decide +kernel
theorem dX12_errand_1 : decode cX12_errand 1 = .ok (.iload_n 1, 1) := by decide +kernel
theorem dX12_errand_2 : decode cX12_errand 2 = .ok (.iload_n 2, 1) := by decide +kernel
theorem dX12_errand_3 : decode cX12_errand 3 = .ok (.invokevirtual 119, 3) := by decide +kernel
theorem dX12_errand_6 : decode cX12_errand 6 = .ok (.ifCond .ne 10, 3) := by decide +kernel
theorem dX12_errand_9 : decode cX12_errand 9 = .ok (.aload_n 0, 1) := by decide +kernel
theorem dX12_errand_10 : decode cX12_errand 10 = .ok (.bipush (-2), 2) := by decide +kernel
theorem dX12_errand_12 : decode cX12_errand 12 = .ok (.invokevirtual 60, 3) := by decide +kernel
theorem dX12_errand_15 : decode cX12_errand 15 = .ok (.ireturn, 1) := by decide +kernel
theorem dX12_errand_16 : decode cX12_errand 16 = .ok (.aload_n 0, 1) := by decide +kernel
theorem dX12_errand_17 : decode cX12_errand 17 = .ok (.invokevirtual 133, 3) := by decide +kernel
theorem dX12_errand_20 : decode cX12_errand 20 = .ok (.istore_n 3, 1) := by decide +kernel
theorem dX12_errand_21 : decode cX12_errand 21 = .ok (.iload_n 3, 1) := by decide +kernel
theorem dX12_errand_22 : decode cX12_errand 22 = .ok (.iconst 5, 1) := by decide +kernel
theorem dX12_errand_23 : decode cX12_errand 23 = .ok (.if_icmp .ne 8, 3) := by decide +kernel
theorem dX12_errand_26 : decode cX12_errand 26 = .ok (.aload_n 0, 1) := by decide +kernel
theorem dX12_errand_27 : decode cX12_errand 27 = .ok (.invokevirtual 64, 3) := by decide +kernel
theorem dX12_errand_30 : decode cX12_errand 30 = .ok (.ireturn, 1) := by decide +kernel
theorem dX12_errand_31 : decode cX12_errand 31 = .ok (.aload_n 0, 1) := by decide +kernel
theorem dX12_errand_32 : decode cX12_errand 32 = .ok (.getfield 7, 3) := by decide +kernel
theorem dX12_errand_35 : decode cX12_errand 35 = .ok (.bipush 29, 2) := by decide +kernel
theorem dX12_errand_37 : decode cX12_errand 37 = .ok (.iconst 2, 1) := by decide +kernel
theorem dX12_errand_38 : decode cX12_errand 38 = .ok (.iload_n 3, 1) := by decide +kernel
theorem dX12_errand_39 : decode cX12_errand 39 = .ok (.imul, 1) := by decide +kernel
theorem dX12_errand_40 : decode cX12_errand 40 = .ok (.iadd, 1) := by decide +kernel
theorem dX12_errand_41 : decode cX12_errand 41 = .ok (.iload_n 1, 1) := by decide +kernel
theorem dX12_errand_42 : decode cX12_errand 42 = .ok (.iastore, 1) := by decide +kernel
theorem dX12_errand_43 : decode cX12_errand 43 = .ok (.aload_n 0, 1) := by decide +kernel
theorem dX12_errand_44 : decode cX12_errand 44 = .ok (.getfield 7, 3) := by decide +kernel
theorem dX12_errand_47 : decode cX12_errand 47 = .ok (.bipush 29, 2) := by decide +kernel
theorem dX12_errand_49 : decode cX12_errand 49 = .ok (.iconst 2, 1) := by decide +kernel
theorem dX12_errand_50 : decode cX12_errand 50 = .ok (.iload_n 3, 1) := by decide +kernel
theorem dX12_errand_51 : decode cX12_errand 51 = .ok (.imul, 1) := by decide +kernel
theorem dX12_errand_52 : decode cX12_errand 52 = .ok (.iadd, 1) := by decide +kernel
theorem dX12_errand_53 : decode cX12_errand 53 = .ok (.iconst 1, 1) := by decide +kernel
theorem dX12_errand_54 : decode cX12_errand 54 = .ok (.iadd, 1) := by decide +kernel
theorem dX12_errand_55 : decode cX12_errand 55 = .ok (.iload_n 2, 1) := by decide +kernel
theorem dX12_errand_56 : decode cX12_errand 56 = .ok (.iastore, 1) := by decide +kernel
theorem dX12_errand_57 : decode cX12_errand 57 = .ok (.aload_n 0, 1) := by decide +kernel
theorem dX12_errand_58 : decode cX12_errand 58 = .ok (.getfield 7, 3) := by decide +kernel
theorem dX12_errand_61 : decode cX12_errand 61 = .ok (.bipush 28, 2) := by decide +kernel
theorem dX12_errand_63 : decode cX12_errand 63 = .ok (.dup2, 1) := by decide +kernel
theorem dX12_errand_64 : decode cX12_errand 64 = .ok (.iaload, 1) := by decide +kernel
theorem dX12_errand_65 : decode cX12_errand 65 = .ok (.iconst 1, 1) := by decide +kernel
theorem dX12_errand_66 : decode cX12_errand 66 = .ok (.iadd, 1) := by decide +kernel
theorem dX12_errand_67 : decode cX12_errand 67 = .ok (.iastore, 1) := by decide +kernel
theorem dX12_errand_68 : decode cX12_errand 68 = .ok (.iload_n 3, 1) := by decide +kernel
theorem dX12_errand_69 : decode cX12_errand 69 = .ok (.ireturn, 1) := by decide +kernel
theorem dX12_drop_0 : decode cX12_drop 0 = .ok (.aload_n 0, 1) := by decide +kernel
theorem dX12_drop_1 : decode cX12_drop 1 = .ok (.invokevirtual 133, 3) := by decide +kernel
theorem dX12_drop_4 : decode cX12_drop 4 = .ok (.ifCond .ne 10, 3) := by decide +kernel
theorem dX12_drop_7 : decode cX12_drop 7 = .ok (.aload_n 0, 1) := by decide +kernel
theorem dX12_drop_8 : decode cX12_drop 8 = .ok (.bipush (-3), 2) := by decide +kernel
theorem dX12_drop_10 : decode cX12_drop 10 = .ok (.invokevirtual 79, 3) := by decide +kernel
theorem dX12_drop_13 : decode cX12_drop 13 = .ok (.ireturn, 1) := by decide +kernel
theorem dX12_drop_14 : decode cX12_drop 14 = .ok (.aload_n 0, 1) := by decide +kernel
theorem dX12_drop_15 : decode cX12_drop 15 = .ok (.getfield 7, 3) := by decide +kernel
theorem dX12_drop_18 : decode cX12_drop 18 = .ok (.bipush 28, 2) := by decide +kernel
theorem dX12_drop_20 : decode cX12_drop 20 = .ok (.dup2, 1) := by decide +kernel
theorem dX12_drop_21 : decode cX12_drop 21 = .ok (.iaload, 1) := by decide +kernel
theorem dX12_drop_22 : decode cX12_drop 22 = .ok (.iconst 1, 1) := by decide +kernel
theorem dX12_drop_23 : decode cX12_drop 23 = .ok (.isub, 1) := by decide +kernel
theorem dX12_drop_24 : decode cX12_drop 24 = .ok (.iastore, 1) := by decide +kernel
theorem dX12_drop_25 : decode cX12_drop 25 = .ok (.aload_n 0, 1) := by decide +kernel
theorem dX12_drop_26 : decode cX12_drop 26 = .ok (.invokevirtual 133, 3) := by decide +kernel
theorem dX12_drop_29 : decode cX12_drop 29 = .ok (.ireturn, 1) := by decide +kernel
theorem dX12_doErrand_0 : decode cX12_doErrand 0 = .ok (.aload_n 0, 1) := by decide +kernel
theorem dX12_doErrand_1 : decode cX12_doErrand 1 = .ok (.aload_n 0, 1) := by decide +kernel
theorem dX12_doErrand_2 : decode cX12_doErrand 2 = .ok (.getfield 7, 3) := by decide +kernel
theorem dX12_doErrand_5 : decode cX12_doErrand 5 = .ok (.bipush 29, 2) := by decide +kernel
theorem dX12_doErrand_7 : decode cX12_doErrand 7 = .ok (.iconst 2, 1) := by decide +kernel
theorem dX12_doErrand_8 : decode cX12_doErrand 8 = .ok (.iload_n 1, 1) := by decide +kernel
theorem dX12_doErrand_9 : decode cX12_doErrand 9 = .ok (.imul, 1) := by decide +kernel
theorem dX12_doErrand_10 : decode cX12_doErrand 10 = .ok (.iadd, 1) := by decide +kernel
theorem dX12_doErrand_11 : decode cX12_doErrand 11 = .ok (.iaload, 1) := by decide +kernel
theorem dX12_doErrand_12 : decode cX12_doErrand 12 = .ok (.aload_n 0, 1) := by decide +kernel
theorem dX12_doErrand_13 : decode cX12_doErrand 13 = .ok (.getfield 7, 3) := by decide +kernel
theorem dX12_doErrand_16 : decode cX12_doErrand 16 = .ok (.bipush 29, 2) := by decide +kernel
theorem dX12_doErrand_18 : decode cX12_doErrand 18 = .ok (.iconst 2, 1) := by decide +kernel
theorem dX12_doErrand_19 : decode cX12_doErrand 19 = .ok (.iload_n 1, 1) := by decide +kernel
theorem dX12_doErrand_20 : decode cX12_doErrand 20 = .ok (.imul, 1) := by decide +kernel
theorem dX12_doErrand_21 : decode cX12_doErrand 21 = .ok (.iadd, 1) := by decide +kernel
theorem dX12_doErrand_22 : decode cX12_doErrand 22 = .ok (.iconst 1, 1) := by decide +kernel
theorem dX12_doErrand_23 : decode cX12_doErrand 23 = .ok (.iadd, 1) := by decide +kernel
theorem dX12_doErrand_24 : decode cX12_doErrand 24 = .ok (.iaload, 1) := by decide +kernel
theorem dX12_doErrand_25 : decode cX12_doErrand 25 = .ok (.invokevirtual 126, 3) := by decide +kernel
theorem dX12_doErrand_28 : decode cX12_doErrand 28 = .ok (.aload_n 0, 1) := by decide +kernel
theorem dX12_doErrand_29 : decode cX12_doErrand 29 = .ok (.iload_n 2, 1) := by decide +kernel
theorem dX12_doErrand_30 : decode cX12_doErrand 30 = .ok (.invokevirtual 114, 3) := by decide +kernel
theorem dX12_doErrand_33 : decode cX12_doErrand 33 = .ok (.ireturn, 1) := by decide +kernel
theorem dX12_layOrder_0 : decode cX12_layOrder 0 = .ok (.iload_n 1, 1) := by decide +kernel
theorem dX12_layOrder_1 : decode cX12_layOrder 1 = .ok (.istore_n 2, 1) := by decide +kernel
theorem dX12_layOrder_2 : decode cX12_layOrder 2 = .ok (.iconst 0, 1) := by decide +kernel
theorem dX12_layOrder_3 : decode cX12_layOrder 3 = .ok (.istore_n 3, 1) := by decide +kernel
theorem dX12_layOrder_4 : decode cX12_layOrder 4 = .ok (.aload_n 0, 1) := by decide +kernel
theorem dX12_layOrder_5 : decode cX12_layOrder 5 = .ok (.invokevirtual 133, 3) := by decide +kernel
theorem dX12_layOrder_8 : decode cX12_layOrder 8 = .ok (.iconst 1, 1) := by decide +kernel
theorem dX12_layOrder_9 : decode cX12_layOrder 9 = .ok (.isub, 1) := by decide +kernel
theorem dX12_layOrder_10 : decode cX12_layOrder 10 = .ok (.istore 4, 2) := by decide +kernel
theorem dX12_layOrder_12 : decode cX12_layOrder 12 = .ok (.iload 4, 2) := by decide +kernel
theorem dX12_layOrder_14 : decode cX12_layOrder 14 = .ok (.ifCond .lt 41, 3) := by decide +kernel
theorem dX12_layOrder_17 : decode cX12_layOrder 17 = .ok (.aload_n 0, 1) := by decide +kernel
theorem dX12_layOrder_18 : decode cX12_layOrder 18 = .ok (.getfield 30, 3) := by decide +kernel
theorem dX12_layOrder_21 : decode cX12_layOrder 21 = .ok (.iload 4, 2) := by decide +kernel
theorem dX12_layOrder_23 : decode cX12_layOrder 23 = .ok (.iload_n 2, 1) := by decide +kernel
theorem dX12_layOrder_24 : decode cX12_layOrder 24 = .ok (.aload_n 0, 1) := by decide +kernel
theorem dX12_layOrder_25 : decode cX12_layOrder 25 = .ok (.invokevirtual 133, 3) := by decide +kernel
theorem dX12_layOrder_28 : decode cX12_layOrder 28 = .ok (.irem, 1) := by decide +kernel
theorem dX12_layOrder_29 : decode cX12_layOrder 29 = .ok (.iastore, 1) := by decide +kernel
theorem dX12_layOrder_30 : decode cX12_layOrder 30 = .ok (.iload_n 3, 1) := by decide +kernel
theorem dX12_layOrder_31 : decode cX12_layOrder 31 = .ok (.iconst 1, 1) := by decide +kernel
theorem dX12_layOrder_32 : decode cX12_layOrder 32 = .ok (.aload_n 0, 1) := by decide +kernel
theorem dX12_layOrder_33 : decode cX12_layOrder 33 = .ok (.getfield 30, 3) := by decide +kernel
theorem dX12_layOrder_36 : decode cX12_layOrder 36 = .ok (.iload 4, 2) := by decide +kernel
theorem dX12_layOrder_38 : decode cX12_layOrder 38 = .ok (.iaload, 1) := by decide +kernel
theorem dX12_layOrder_39 : decode cX12_layOrder 39 = .ok (.ishl, 1) := by decide +kernel
theorem dX12_layOrder_40 : decode cX12_layOrder 40 = .ok (.ior, 1) := by decide +kernel
theorem dX12_layOrder_41 : decode cX12_layOrder 41 = .ok (.istore_n 3, 1) := by decide +kernel
theorem dX12_layOrder_42 : decode cX12_layOrder 42 = .ok (.iload_n 2, 1) := by decide +kernel
theorem dX12_layOrder_43 : decode cX12_layOrder 43 = .ok (.aload_n 0, 1) := by decide +kernel
theorem dX12_layOrder_44 : decode cX12_layOrder 44 = .ok (.invokevirtual 133, 3) := by decide +kernel
theorem dX12_layOrder_47 : decode cX12_layOrder 47 = .ok (.idiv, 1) := by decide +kernel
theorem dX12_layOrder_48 : decode cX12_layOrder 48 = .ok (.istore_n 2, 1) := by decide +kernel
theorem dX12_layOrder_49 : decode cX12_layOrder 49 = .ok (.iinc 4 (-1), 3) := by decide +kernel
theorem dX12_layOrder_52 : decode cX12_layOrder 52 = .ok (.goto (-40), 3) := by decide +kernel
theorem dX12_layOrder_55 : decode cX12_layOrder 55 = .ok (.iload_n 3, 1) := by decide +kernel
theorem dX12_layOrder_56 : decode cX12_layOrder 56 = .ok (.invokestatic 136, 3) := by decide +kernel
theorem dX12_layOrder_59 : decode cX12_layOrder 59 = .ok (.aload_n 0, 1) := by decide +kernel
theorem dX12_layOrder_60 : decode cX12_layOrder 60 = .ok (.invokevirtual 133, 3) := by decide +kernel
theorem dX12_layOrder_63 : decode cX12_layOrder 63 = .ok (.if_icmp .ne 7, 3) := by decide +kernel
theorem dX12_layOrder_66 : decode cX12_layOrder 66 = .ok (.iconst 1, 1) := by decide +kernel
theorem dX12_layOrder_67 : decode cX12_layOrder 67 = .ok (.goto 4, 3) := by decide +kernel
theorem dX12_layOrder_70 : decode cX12_layOrder 70 = .ok (.iconst 0, 1) := by decide +kernel
theorem dX12_layOrder_71 : decode cX12_layOrder 71 = .ok (.ireturn, 1) := by decide +kernel
theorem dX12_harmOfRow_0 : decode cX12_harmOfRow 0 = .ok (.aload_n 0, 1) := by decide +kernel
theorem dX12_harmOfRow_1 : decode cX12_harmOfRow 1 = .ok (.getfield 7, 3) := by decide +kernel
theorem dX12_harmOfRow_4 : decode cX12_harmOfRow 4 = .ok (.bipush 27, 2) := by decide +kernel
theorem dX12_harmOfRow_6 : decode cX12_harmOfRow 6 = .ok (.iaload, 1) := by decide +kernel
theorem dX12_harmOfRow_7 : decode cX12_harmOfRow 7 = .ok (.istore_n 1, 1) := by decide +kernel
theorem dX12_harmOfRow_8 : decode cX12_harmOfRow 8 = .ok (.iconst 0, 1) := by decide +kernel
theorem dX12_harmOfRow_9 : decode cX12_harmOfRow 9 = .ok (.istore_n 2, 1) := by decide +kernel
theorem dX12_harmOfRow_10 : decode cX12_harmOfRow 10 = .ok (.iconst 0, 1) := by decide +kernel
theorem dX12_harmOfRow_11 : decode cX12_harmOfRow 11 = .ok (.istore_n 3, 1) := by decide +kernel
theorem dX12_harmOfRow_12 : decode cX12_harmOfRow 12 = .ok (.iload_n 3, 1) := by decide +kernel
theorem dX12_harmOfRow_13 : decode cX12_harmOfRow 13 = .ok (.aload_n 0, 1) := by decide +kernel
theorem dX12_harmOfRow_14 : decode cX12_harmOfRow 14 = .ok (.invokevirtual 133, 3) := by decide +kernel
theorem dX12_harmOfRow_17 : decode cX12_harmOfRow 17 = .ok (.if_icmp .ge 38, 3) := by decide +kernel
theorem dX12_harmOfRow_20 : decode cX12_harmOfRow 20 = .ok (.aload_n 0, 1) := by decide +kernel
theorem dX12_harmOfRow_21 : decode cX12_harmOfRow 21 = .ok (.aload_n 0, 1) := by decide +kernel
theorem dX12_harmOfRow_22 : decode cX12_harmOfRow 22 = .ok (.getfield 30, 3) := by decide +kernel
theorem dX12_harmOfRow_25 : decode cX12_harmOfRow 25 = .ok (.iload_n 3, 1) := by decide +kernel
theorem dX12_harmOfRow_26 : decode cX12_harmOfRow 26 = .ok (.iaload, 1) := by decide +kernel
theorem dX12_harmOfRow_27 : decode cX12_harmOfRow 27 = .ok (.iload_n 1, 1) := by decide +kernel
theorem dX12_harmOfRow_28 : decode cX12_harmOfRow 28 = .ok (.invokevirtual 139, 3) := by decide +kernel
theorem dX12_harmOfRow_31 : decode cX12_harmOfRow 31 = .ok (.istore 4, 2) := by decide +kernel
theorem dX12_harmOfRow_33 : decode cX12_harmOfRow 33 = .ok (.iload_n 2, 1) := by decide +kernel
theorem dX12_harmOfRow_34 : decode cX12_harmOfRow 34 = .ok (.aload_n 0, 1) := by decide +kernel
theorem dX12_harmOfRow_35 : decode cX12_harmOfRow 35 = .ok (.iload 4, 2) := by decide +kernel
theorem dX12_harmOfRow_37 : decode cX12_harmOfRow 37 = .ok (.iload_n 1, 1) := by decide +kernel
theorem dX12_harmOfRow_38 : decode cX12_harmOfRow 38 = .ok (.iconst (-1), 1) := by decide +kernel
theorem dX12_harmOfRow_39 : decode cX12_harmOfRow 39 = .ok (.ixor, 1) := by decide +kernel
theorem dX12_harmOfRow_40 : decode cX12_harmOfRow 40 = .ok (.iand, 1) := by decide +kernel
theorem dX12_harmOfRow_41 : decode cX12_harmOfRow 41 = .ok (.invokevirtual 142, 3) := by decide +kernel
theorem dX12_harmOfRow_44 : decode cX12_harmOfRow 44 = .ok (.iadd, 1) := by decide +kernel
theorem dX12_harmOfRow_45 : decode cX12_harmOfRow 45 = .ok (.istore_n 2, 1) := by decide +kernel
theorem dX12_harmOfRow_46 : decode cX12_harmOfRow 46 = .ok (.iload 4, 2) := by decide +kernel
theorem dX12_harmOfRow_48 : decode cX12_harmOfRow 48 = .ok (.istore_n 1, 1) := by decide +kernel
theorem dX12_harmOfRow_49 : decode cX12_harmOfRow 49 = .ok (.iinc 3 1, 3) := by decide +kernel
theorem dX12_harmOfRow_52 : decode cX12_harmOfRow 52 = .ok (.goto (-40), 3) := by decide +kernel
theorem dX12_harmOfRow_55 : decode cX12_harmOfRow 55 = .ok (.iload_n 2, 1) := by decide +kernel
theorem dX12_harmOfRow_56 : decode cX12_harmOfRow 56 = .ok (.ireturn, 1) := by decide +kernel
theorem dX12_order_0 : decode cX12_order 0 = .ok (.iload_n 1, 1) := by decide +kernel
theorem dX12_order_1 : decode cX12_order 1 = .ok (.iconst (-1), 1) := by decide +kernel
theorem dX12_order_2 : decode cX12_order 2 = .ok (.if_icmp .ge 10, 3) := by decide +kernel
theorem dX12_order_5 : decode cX12_order 5 = .ok (.aload_n 0, 1) := by decide +kernel
theorem dX12_order_6 : decode cX12_order 6 = .ok (.bipush (-10), 2) := by decide +kernel
theorem dX12_order_8 : decode cX12_order 8 = .ok (.invokevirtual 60, 3) := by decide +kernel
theorem dX12_order_11 : decode cX12_order 11 = .ok (.ireturn, 1) := by decide +kernel
theorem dX12_order_12 : decode cX12_order 12 = .ok (.aload_n 0, 1) := by decide +kernel
theorem dX12_order_13 : decode cX12_order 13 = .ok (.invokevirtual 123, 3) := by decide +kernel
theorem dX12_order_16 : decode cX12_order 16 = .ok (.iconst 1, 1) := by decide +kernel
theorem dX12_order_17 : decode cX12_order 17 = .ok (.istore_n 2, 1) := by decide +kernel
theorem dX12_order_18 : decode cX12_order 18 = .ok (.iconst 0, 1) := by decide +kernel
theorem dX12_order_19 : decode cX12_order 19 = .ok (.istore_n 3, 1) := by decide +kernel
theorem dX12_order_20 : decode cX12_order 20 = .ok (.iload_n 3, 1) := by decide +kernel
theorem dX12_order_21 : decode cX12_order 21 = .ok (.aload_n 0, 1) := by decide +kernel
theorem dX12_order_22 : decode cX12_order 22 = .ok (.invokevirtual 133, 3) := by decide +kernel
theorem dX12_order_25 : decode cX12_order 25 = .ok (.if_icmp .ge 16, 3) := by decide +kernel
theorem dX12_order_28 : decode cX12_order 28 = .ok (.iload_n 2, 1) := by decide +kernel
theorem dX12_order_29 : decode cX12_order 29 = .ok (.aload_n 0, 1) := by decide +kernel
theorem dX12_order_30 : decode cX12_order 30 = .ok (.invokevirtual 133, 3) := by decide +kernel
theorem dX12_order_33 : decode cX12_order 33 = .ok (.imul, 1) := by decide +kernel
theorem dX12_order_34 : decode cX12_order 34 = .ok (.istore_n 2, 1) := by decide +kernel
theorem dX12_order_35 : decode cX12_order 35 = .ok (.iinc 3 1, 3) := by decide +kernel
theorem dX12_order_38 : decode cX12_order 38 = .ok (.goto (-18), 3) := by decide +kernel
theorem dX12_order_41 : decode cX12_order 41 = .ok (.aload_n 0, 1) := by decide +kernel
theorem dX12_order_42 : decode cX12_order 42 = .ok (.ldc 145, 2) := by decide +kernel
theorem dX12_order_44 : decode cX12_order 44 = .ok (.putfield 146, 3) := by decide +kernel
theorem dX12_order_47 : decode cX12_order 47 = .ok (.iconst 0, 1) := by decide +kernel
theorem dX12_order_48 : decode cX12_order 48 = .ok (.istore_n 3, 1) := by decide +kernel
theorem dX12_order_49 : decode cX12_order 49 = .ok (.iload_n 3, 1) := by decide +kernel
theorem dX12_order_50 : decode cX12_order 50 = .ok (.iload_n 2, 1) := by decide +kernel
theorem dX12_order_51 : decode cX12_order 51 = .ok (.if_icmp .ge 86, 3) := by decide +kernel
theorem dX12_order_54 : decode cX12_order 54 = .ok (.aload_n 0, 1) := by decide +kernel
theorem dX12_order_55 : decode cX12_order 55 = .ok (.iload_n 3, 1) := by decide +kernel
theorem dX12_order_56 : decode cX12_order 56 = .ok (.invokevirtual 149, 3) := by decide +kernel
theorem dX12_order_59 : decode cX12_order 59 = .ok (.ifCond .eq 72, 3) := by decide +kernel
theorem dX12_order_62 : decode cX12_order 62 = .ok (.aload_n 0, 1) := by decide +kernel
theorem dX12_order_63 : decode cX12_order 63 = .ok (.invokevirtual 152, 3) := by decide +kernel
theorem dX12_order_66 : decode cX12_order 66 = .ok (.istore 4, 2) := by decide +kernel
theorem dX12_order_68 : decode cX12_order 68 = .ok (.iconst 0, 1) := by decide +kernel
theorem dX12_order_69 : decode cX12_order 69 = .ok (.istore 5, 2) := by decide +kernel
theorem dX12_order_71 : decode cX12_order 71 = .ok (.iload 5, 2) := by decide +kernel
theorem dX12_order_73 : decode cX12_order 73 = .ok (.aload_n 0, 1) := by decide +kernel
theorem dX12_order_74 : decode cX12_order 74 = .ok (.invokevirtual 133, 3) := by decide +kernel
theorem dX12_order_77 : decode cX12_order 77 = .ok (.if_icmp .ge 32, 3) := by decide +kernel
theorem dX12_order_80 : decode cX12_order 80 = .ok (.iload 4, 2) := by decide +kernel
theorem dX12_order_82 : decode cX12_order 82 = .ok (.aload_n 0, 1) := by decide +kernel
theorem dX12_order_83 : decode cX12_order 83 = .ok (.getfield 146, 3) := by decide +kernel
theorem dX12_order_86 : decode cX12_order 86 = .ok (.if_icmp .ge 23, 3) := by decide +kernel
theorem dX12_order_89 : decode cX12_order 89 = .ok (.aload_n 0, 1) := by decide +kernel
theorem dX12_order_90 : decode cX12_order 90 = .ok (.getfield 33, 3) := by decide +kernel
theorem dX12_order_93 : decode cX12_order 93 = .ok (.iload 5, 2) := by decide +kernel
theorem dX12_order_95 : decode cX12_order 95 = .ok (.aload_n 0, 1) := by decide +kernel
theorem dX12_order_96 : decode cX12_order 96 = .ok (.getfield 30, 3) := by decide +kernel
theorem dX12_order_99 : decode cX12_order 99 = .ok (.iload 5, 2) := by decide +kernel
theorem dX12_order_101 : decode cX12_order 101 = .ok (.iaload, 1) := by decide +kernel
theorem dX12_order_102 : decode cX12_order 102 = .ok (.iastore, 1) := by decide +kernel
theorem dX12_order_103 : decode cX12_order 103 = .ok (.iinc 5 1, 3) := by decide +kernel
theorem dX12_order_106 : decode cX12_order 106 = .ok (.goto (-35), 3) := by decide +kernel
theorem dX12_order_109 : decode cX12_order 109 = .ok (.aload_n 0, 1) := by decide +kernel
theorem dX12_order_110 : decode cX12_order 110 = .ok (.iload 4, 2) := by decide +kernel
theorem dX12_order_112 : decode cX12_order 112 = .ok (.aload_n 0, 1) := by decide +kernel
theorem dX12_order_113 : decode cX12_order 113 = .ok (.getfield 146, 3) := by decide +kernel
theorem dX12_order_116 : decode cX12_order 116 = .ok (.if_icmp .ge 8, 3) := by decide +kernel
theorem dX12_order_119 : decode cX12_order 119 = .ok (.iload 4, 2) := by decide +kernel
theorem dX12_order_121 : decode cX12_order 121 = .ok (.goto 7, 3) := by decide +kernel
theorem dX12_order_124 : decode cX12_order 124 = .ok (.aload_n 0, 1) := by decide +kernel
theorem dX12_order_125 : decode cX12_order 125 = .ok (.getfield 146, 3) := by decide +kernel
theorem dX12_order_128 : decode cX12_order 128 = .ok (.putfield 146, 3) := by decide +kernel
theorem dX12_order_131 : decode cX12_order 131 = .ok (.iinc 3 1, 3) := by decide +kernel
theorem dX12_order_134 : decode cX12_order 134 = .ok (.goto (-85), 3) := by decide +kernel
theorem dX12_order_137 : decode cX12_order 137 = .ok (.iload_n 1, 1) := by decide +kernel
theorem dX12_order_138 : decode cX12_order 138 = .ok (.iconst (-1), 1) := by decide +kernel
theorem dX12_order_139 : decode cX12_order 139 = .ok (.if_icmp .ne 10, 3) := by decide +kernel
theorem dX12_order_142 : decode cX12_order 142 = .ok (.aload_n 0, 1) := by decide +kernel
theorem dX12_order_143 : decode cX12_order 143 = .ok (.getfield 146, 3) := by decide +kernel
theorem dX12_order_146 : decode cX12_order 146 = .ok (.goto 22, 3) := by decide +kernel
theorem dX12_order_149 : decode cX12_order 149 = .ok (.iload_n 1, 1) := by decide +kernel
theorem dX12_order_150 : decode cX12_order 150 = .ok (.aload_n 0, 1) := by decide +kernel
theorem dX12_order_151 : decode cX12_order 151 = .ok (.invokevirtual 133, 3) := by decide +kernel
theorem dX12_order_154 : decode cX12_order 154 = .ok (.if_icmp .ge 12, 3) := by decide +kernel
theorem dX12_order_157 : decode cX12_order 157 = .ok (.aload_n 0, 1) := by decide +kernel
theorem dX12_order_158 : decode cX12_order 158 = .ok (.getfield 33, 3) := by decide +kernel
theorem dX12_order_161 : decode cX12_order 161 = .ok (.iload_n 1, 1) := by decide +kernel
theorem dX12_order_162 : decode cX12_order 162 = .ok (.iaload, 1) := by decide +kernel
theorem dX12_order_163 : decode cX12_order 163 = .ok (.goto 5, 3) := by decide +kernel
theorem dX12_order_166 : decode cX12_order 166 = .ok (.bipush (-5), 2) := by decide +kernel
theorem dX12_order_168 : decode cX12_order 168 = .ok (.ireturn, 1) := by decide +kernel
theorem dX12_findFar_0 : decode cX12_findFar 0 = .ok (.iconst 0, 1) := by decide +kernel
theorem dX12_findFar_1 : decode cX12_findFar 1 = .ok (.istore_n 2, 1) := by decide +kernel
theorem dX12_findFar_2 : decode cX12_findFar 2 = .ok (.iload_n 2, 1) := by decide +kernel
theorem dX12_findFar_3 : decode cX12_findFar 3 = .ok (.bipush 32, 2) := by decide +kernel
theorem dX12_findFar_5 : decode cX12_findFar 5 = .ok (.if_icmp .ge 26, 3) := by decide +kernel
theorem dX12_findFar_8 : decode cX12_findFar 8 = .ok (.aload_n 0, 1) := by decide +kernel
theorem dX12_findFar_9 : decode cX12_findFar 9 = .ok (.getfield 36, 3) := by decide +kernel
theorem dX12_findFar_12 : decode cX12_findFar 12 = .ok (.iload_n 2, 1) := by decide +kernel
theorem dX12_findFar_13 : decode cX12_findFar 13 = .ok (.iload_n 2, 1) := by decide +kernel
theorem dX12_findFar_14 : decode cX12_findFar 14 = .ok (.iload_n 1, 1) := by decide +kernel
theorem dX12_findFar_15 : decode cX12_findFar 15 = .ok (.if_icmp .ne 7, 3) := by decide +kernel
theorem dX12_findFar_18 : decode cX12_findFar 18 = .ok (.iconst 0, 1) := by decide +kernel
theorem dX12_findFar_19 : decode cX12_findFar 19 = .ok (.goto 5, 3) := by decide +kernel
theorem dX12_findFar_22 : decode cX12_findFar 22 = .ok (.ldc 145, 2) := by decide +kernel
theorem dX12_findFar_24 : decode cX12_findFar 24 = .ok (.iastore, 1) := by decide +kernel
theorem dX12_findFar_25 : decode cX12_findFar 25 = .ok (.iinc 2 1, 3) := by decide +kernel
theorem dX12_findFar_28 : decode cX12_findFar 28 = .ok (.goto (-26), 3) := by decide +kernel
theorem dX12_findFar_31 : decode cX12_findFar 31 = .ok (.iconst 1, 1) := by decide +kernel
theorem dX12_findFar_32 : decode cX12_findFar 32 = .ok (.istore_n 2, 1) := by decide +kernel
theorem dX12_findFar_33 : decode cX12_findFar 33 = .ok (.iload_n 2, 1) := by decide +kernel
theorem dX12_findFar_34 : decode cX12_findFar 34 = .ok (.ifCond .eq 79, 3) := by decide +kernel
theorem dX12_findFar_37 : decode cX12_findFar 37 = .ok (.iconst 0, 1) := by decide +kernel
theorem dX12_findFar_38 : decode cX12_findFar 38 = .ok (.istore_n 2, 1) := by decide +kernel
theorem dX12_findFar_39 : decode cX12_findFar 39 = .ok (.iconst 0, 1) := by decide +kernel
theorem dX12_findFar_40 : decode cX12_findFar 40 = .ok (.istore_n 3, 1) := by decide +kernel
theorem dX12_findFar_41 : decode cX12_findFar 41 = .ok (.iload_n 3, 1) := by decide +kernel
theorem dX12_findFar_42 : decode cX12_findFar 42 = .ok (.aload_n 0, 1) := by decide +kernel
theorem dX12_findFar_43 : decode cX12_findFar 43 = .ok (.invokevirtual 155, 3) := by decide +kernel
theorem dX12_findFar_46 : decode cX12_findFar 46 = .ok (.if_icmp .gt 64, 3) := by decide +kernel
theorem dX12_findFar_49 : decode cX12_findFar 49 = .ok (.iconst 0, 1) := by decide +kernel
theorem dX12_findFar_50 : decode cX12_findFar 50 = .ok (.istore 4, 2) := by decide +kernel
theorem dX12_findFar_52 : decode cX12_findFar 52 = .ok (.iload 4, 2) := by decide +kernel
theorem dX12_findFar_54 : decode cX12_findFar 54 = .ok (.aload_n 0, 1) := by decide +kernel
theorem dX12_findFar_55 : decode cX12_findFar 55 = .ok (.invokevirtual 133, 3) := by decide +kernel
theorem dX12_findFar_58 : decode cX12_findFar 58 = .ok (.if_icmp .ge 46, 3) := by decide +kernel
theorem dX12_findFar_61 : decode cX12_findFar 61 = .ok (.aload_n 0, 1) := by decide +kernel
theorem dX12_findFar_62 : decode cX12_findFar 62 = .ok (.getfield 36, 3) := by decide +kernel
theorem dX12_findFar_65 : decode cX12_findFar 65 = .ok (.aload_n 0, 1) := by decide +kernel
theorem dX12_findFar_66 : decode cX12_findFar 66 = .ok (.iload 4, 2) := by decide +kernel
theorem dX12_findFar_68 : decode cX12_findFar 68 = .ok (.iload_n 3, 1) := by decide +kernel
theorem dX12_findFar_69 : decode cX12_findFar 69 = .ok (.invokevirtual 139, 3) := by decide +kernel
theorem dX12_findFar_72 : decode cX12_findFar 72 = .ok (.iaload, 1) := by decide +kernel
theorem dX12_findFar_73 : decode cX12_findFar 73 = .ok (.iconst 1, 1) := by decide +kernel
theorem dX12_findFar_74 : decode cX12_findFar 74 = .ok (.iadd, 1) := by decide +kernel
theorem dX12_findFar_75 : decode cX12_findFar 75 = .ok (.istore 5, 2) := by decide +kernel
theorem dX12_findFar_77 : decode cX12_findFar 77 = .ok (.iload 5, 2) := by decide +kernel
theorem dX12_findFar_79 : decode cX12_findFar 79 = .ok (.aload_n 0, 1) := by decide +kernel
theorem dX12_findFar_80 : decode cX12_findFar 80 = .ok (.getfield 36, 3) := by decide +kernel
theorem dX12_findFar_83 : decode cX12_findFar 83 = .ok (.iload_n 3, 1) := by decide +kernel
theorem dX12_findFar_84 : decode cX12_findFar 84 = .ok (.iaload, 1) := by decide +kernel
theorem dX12_findFar_85 : decode cX12_findFar 85 = .ok (.if_icmp .ge 13, 3) := by decide +kernel
theorem dX12_findFar_88 : decode cX12_findFar 88 = .ok (.aload_n 0, 1) := by decide +kernel
theorem dX12_findFar_89 : decode cX12_findFar 89 = .ok (.getfield 36, 3) := by decide +kernel
theorem dX12_findFar_92 : decode cX12_findFar 92 = .ok (.iload_n 3, 1) := by decide +kernel
theorem dX12_findFar_93 : decode cX12_findFar 93 = .ok (.iload 5, 2) := by decide +kernel
theorem dX12_findFar_95 : decode cX12_findFar 95 = .ok (.iastore, 1) := by decide +kernel
theorem dX12_findFar_96 : decode cX12_findFar 96 = .ok (.iconst 1, 1) := by decide +kernel
theorem dX12_findFar_97 : decode cX12_findFar 97 = .ok (.istore_n 2, 1) := by decide +kernel
theorem dX12_findFar_98 : decode cX12_findFar 98 = .ok (.iinc 4 1, 3) := by decide +kernel
theorem dX12_findFar_101 : decode cX12_findFar 101 = .ok (.goto (-49), 3) := by decide +kernel
theorem dX12_findFar_104 : decode cX12_findFar 104 = .ok (.iinc 3 1, 3) := by decide +kernel
theorem dX12_findFar_107 : decode cX12_findFar 107 = .ok (.goto (-66), 3) := by decide +kernel
theorem dX12_findFar_110 : decode cX12_findFar 110 = .ok (.goto (-77), 3) := by decide +kernel
theorem dX12_findFar_113 : decode cX12_findFar 113 = .ok (.return_, 1) := by decide +kernel
theorem dX12_isSet_0 : decode cX12_isSet 0 = .ok (.iload_n 1, 1) := by decide +kernel
theorem dX12_isSet_1 : decode cX12_isSet 1 = .ok (.i2l, 1) := by decide +kernel
theorem dX12_isSet_2 : decode cX12_isSet 2 = .ok (.lconst 0, 1) := by decide +kernel
theorem dX12_isSet_3 : decode cX12_isSet 3 = .ok (.aload_n 0, 1) := by decide +kernel
theorem dX12_isSet_4 : decode cX12_isSet 4 = .ok (.invokevirtual 155, 3) := by decide +kernel
theorem dX12_isSet_7 : decode cX12_isSet 7 = .ok (.i2l, 1) := by decide +kernel
theorem dX12_isSet_8 : decode cX12_isSet 8 = .ok (.invokestatic 52, 3) := by decide +kernel
theorem dX12_isSet_11 : decode cX12_isSet 11 = .ok (.ireturn, 1) := by decide +kernel
theorem dX12_code_0 : decode cX12_code 0 = .ok (.aload_n 0, 1) := by decide +kernel
theorem dX12_code_1 : decode cX12_code 1 = .ok (.iload_n 1, 1) := by decide +kernel
theorem dX12_code_2 : decode cX12_code 2 = .ok (.invokevirtual 158, 3) := by decide +kernel
theorem dX12_code_5 : decode cX12_code 5 = .ok (.ifCond .eq 8, 3) := by decide +kernel
theorem dX12_code_8 : decode cX12_code 8 = .ok (.iload_n 2, 1) := by decide +kernel
theorem dX12_code_9 : decode cX12_code 9 = .ok (.iconst (-1), 1) := by decide +kernel
theorem dX12_code_10 : decode cX12_code 10 = .ok (.if_icmp .ge 10, 3) := by decide +kernel
theorem dX12_code_13 : decode cX12_code 13 = .ok (.aload_n 0, 1) := by decide +kernel
theorem dX12_code_14 : decode cX12_code 14 = .ok (.bipush (-10), 2) := by decide +kernel
theorem dX12_code_16 : decode cX12_code 16 = .ok (.invokevirtual 60, 3) := by decide +kernel
theorem dX12_code_19 : decode cX12_code 19 = .ok (.ireturn, 1) := by decide +kernel
theorem dX12_code_20 : decode cX12_code 20 = .ok (.aload_n 0, 1) := by decide +kernel
theorem dX12_code_21 : decode cX12_code 21 = .ok (.invokevirtual 123, 3) := by decide +kernel
theorem dX12_code_24 : decode cX12_code 24 = .ok (.aload_n 0, 1) := by decide +kernel
theorem dX12_code_25 : decode cX12_code 25 = .ok (.iload_n 1, 1) := by decide +kernel
theorem dX12_code_26 : decode cX12_code 26 = .ok (.invokevirtual 161, 3) := by decide +kernel
theorem dX12_code_29 : decode cX12_code 29 = .ok (.aload_n 0, 1) := by decide +kernel
theorem dX12_code_30 : decode cX12_code 30 = .ok (.getfield 7, 3) := by decide +kernel
theorem dX12_code_33 : decode cX12_code 33 = .ok (.bipush 27, 2) := by decide +kernel
theorem dX12_code_35 : decode cX12_code 35 = .ok (.iaload, 1) := by decide +kernel
theorem dX12_code_36 : decode cX12_code 36 = .ok (.istore_n 3, 1) := by decide +kernel
theorem dX12_code_37 : decode cX12_code 37 = .ok (.aload_n 0, 1) := by decide +kernel
theorem dX12_code_38 : decode cX12_code 38 = .ok (.getfield 36, 3) := by decide +kernel
theorem dX12_code_41 : decode cX12_code 41 = .ok (.iload_n 3, 1) := by decide +kernel
theorem dX12_code_42 : decode cX12_code 42 = .ok (.iaload, 1) := by decide +kernel
theorem dX12_code_43 : decode cX12_code 43 = .ok (.istore 4, 2) := by decide +kernel
theorem dX12_code_45 : decode cX12_code 45 = .ok (.iload 4, 2) := by decide +kernel
theorem dX12_code_47 : decode cX12_code 47 = .ok (.ldc 145, 2) := by decide +kernel
theorem dX12_code_49 : decode cX12_code 49 = .ok (.if_icmp .lt 5, 3) := by decide +kernel
theorem dX12_code_52 : decode cX12_code 52 = .ok (.iconst (-1), 1) := by decide +kernel
theorem dX12_code_53 : decode cX12_code 53 = .ok (.ireturn, 1) := by decide +kernel
theorem dX12_code_54 : decode cX12_code 54 = .ok (.iload_n 2, 1) := by decide +kernel
theorem dX12_code_55 : decode cX12_code 55 = .ok (.iconst (-1), 1) := by decide +kernel
theorem dX12_code_56 : decode cX12_code 56 = .ok (.if_icmp .ne 6, 3) := by decide +kernel
theorem dX12_code_59 : decode cX12_code 59 = .ok (.iload 4, 2) := by decide +kernel
theorem dX12_code_61 : decode cX12_code 61 = .ok (.ireturn, 1) := by decide +kernel
theorem dX12_code_62 : decode cX12_code 62 = .ok (.iload_n 2, 1) := by decide +kernel
theorem dX12_code_63 : decode cX12_code 63 = .ok (.iload 4, 2) := by decide +kernel
theorem dX12_code_65 : decode cX12_code 65 = .ok (.if_icmp .lt 6, 3) := by decide +kernel
theorem dX12_code_68 : decode cX12_code 68 = .ok (.bipush (-5), 2) := by decide +kernel
theorem dX12_code_70 : decode cX12_code 70 = .ok (.ireturn, 1) := by decide +kernel
theorem dX12_code_71 : decode cX12_code 71 = .ok (.iconst 0, 1) := by decide +kernel
theorem dX12_code_72 : decode cX12_code 72 = .ok (.istore 5, 2) := by decide +kernel
theorem dX12_code_74 : decode cX12_code 74 = .ok (.iconst 0, 1) := by decide +kernel
theorem dX12_code_75 : decode cX12_code 75 = .ok (.istore 6, 2) := by decide +kernel
theorem dX12_code_77 : decode cX12_code 77 = .ok (.iload 6, 2) := by decide +kernel
theorem dX12_code_79 : decode cX12_code 79 = .ok (.iload_n 2, 1) := by decide +kernel
theorem dX12_code_80 : decode cX12_code 80 = .ok (.if_icmp .gt 49, 3) := by decide +kernel
theorem dX12_code_83 : decode cX12_code 83 = .ok (.iconst 0, 1) := by decide +kernel
theorem dX12_code_84 : decode cX12_code 84 = .ok (.istore 5, 2) := by decide +kernel
theorem dX12_code_86 : decode cX12_code 86 = .ok (.aload_n 0, 1) := by decide +kernel
theorem dX12_code_87 : decode cX12_code 87 = .ok (.getfield 36, 3) := by decide +kernel
theorem dX12_code_90 : decode cX12_code 90 = .ok (.aload_n 0, 1) := by decide +kernel
theorem dX12_code_91 : decode cX12_code 91 = .ok (.iload 5, 2) := by decide +kernel
theorem dX12_code_93 : decode cX12_code 93 = .ok (.iload_n 3, 1) := by decide +kernel
theorem dX12_code_94 : decode cX12_code 94 = .ok (.invokevirtual 139, 3) := by decide +kernel
theorem dX12_code_97 : decode cX12_code 97 = .ok (.iaload, 1) := by decide +kernel
theorem dX12_code_98 : decode cX12_code 98 = .ok (.aload_n 0, 1) := by decide +kernel
theorem dX12_code_99 : decode cX12_code 99 = .ok (.getfield 36, 3) := by decide +kernel
theorem dX12_code_102 : decode cX12_code 102 = .ok (.iload_n 3, 1) := by decide +kernel
theorem dX12_code_103 : decode cX12_code 103 = .ok (.iaload, 1) := by decide +kernel
theorem dX12_code_104 : decode cX12_code 104 = .ok (.iconst 1, 1) := by decide +kernel
theorem dX12_code_105 : decode cX12_code 105 = .ok (.isub, 1) := by decide +kernel
theorem dX12_code_106 : decode cX12_code 106 = .ok (.if_icmp .eq 9, 3) := by decide +kernel
theorem dX12_code_109 : decode cX12_code 109 = .ok (.iinc 5 1, 3) := by decide +kernel
theorem dX12_code_112 : decode cX12_code 112 = .ok (.goto (-26), 3) := by decide +kernel
theorem dX12_code_115 : decode cX12_code 115 = .ok (.aload_n 0, 1) := by decide +kernel
theorem dX12_code_116 : decode cX12_code 116 = .ok (.iload 5, 2) := by decide +kernel
theorem dX12_code_118 : decode cX12_code 118 = .ok (.iload_n 3, 1) := by decide +kernel
theorem dX12_code_119 : decode cX12_code 119 = .ok (.invokevirtual 139, 3) := by decide +kernel
theorem dX12_code_122 : decode cX12_code 122 = .ok (.istore_n 3, 1) := by decide +kernel
theorem dX12_code_123 : decode cX12_code 123 = .ok (.iinc 6 1, 3) := by decide +kernel
theorem dX12_code_126 : decode cX12_code 126 = .ok (.goto (-49), 3) := by decide +kernel
theorem dX12_code_129 : decode cX12_code 129 = .ok (.iload 5, 2) := by decide +kernel
theorem dX12_code_131 : decode cX12_code 131 = .ok (.ireturn, 1) := by decide +kernel
theorem dX12_who_0 : decode cX12_who 0 = .ok (.aload_n 0, 1) := by decide +kernel
theorem dX12_who_1 : decode cX12_who 1 = .ok (.iload_n 1, 1) := by decide +kernel
theorem dX12_who_2 : decode cX12_who 2 = .ok (.invokevirtual 158, 3) := by decide +kernel
theorem dX12_who_5 : decode cX12_who 5 = .ok (.ifCond .eq 13, 3) := by decide +kernel
theorem dX12_who_8 : decode cX12_who 8 = .ok (.iload_n 2, 1) := by decide +kernel
theorem dX12_who_9 : decode cX12_who 9 = .ok (.i2l, 1) := by decide +kernel
theorem dX12_who_10 : decode cX12_who 10 = .ok (.lconst 0, 1) := by decide +kernel
theorem dX12_who_11 : decode cX12_who 11 = .ok (.lconst 1, 1) := by decide +kernel
theorem dX12_who_12 : decode cX12_who 12 = .ok (.invokestatic 52, 3) := by decide +kernel
theorem dX12_who_15 : decode cX12_who 15 = .ok (.ifCond .ne 10, 3) := by decide +kernel
theorem dX12_who_18 : decode cX12_who 18 = .ok (.aload_n 0, 1) := by decide +kernel
theorem dX12_who_19 : decode cX12_who 19 = .ok (.bipush (-10), 2) := by decide +kernel
theorem dX12_who_21 : decode cX12_who 21 = .ok (.invokevirtual 60, 3) := by decide +kernel
theorem dX12_who_24 : decode cX12_who 24 = .ok (.ireturn, 1) := by decide +kernel
theorem dX12_who_25 : decode cX12_who 25 = .ok (.aload_n 0, 1) := by decide +kernel
theorem dX12_who_26 : decode cX12_who 26 = .ok (.invokevirtual 123, 3) := by decide +kernel
theorem dX12_who_29 : decode cX12_who 29 = .ok (.iconst 0, 1) := by decide +kernel
theorem dX12_who_30 : decode cX12_who 30 = .ok (.istore_n 3, 1) := by decide +kernel
theorem dX12_who_31 : decode cX12_who 31 = .ok (.iconst (-1), 1) := by decide +kernel
theorem dX12_who_32 : decode cX12_who 32 = .ok (.istore 4, 2) := by decide +kernel
theorem dX12_who_34 : decode cX12_who 34 = .ok (.iconst 0, 1) := by decide +kernel
theorem dX12_who_35 : decode cX12_who 35 = .ok (.istore 5, 2) := by decide +kernel
theorem dX12_who_37 : decode cX12_who 37 = .ok (.iload 5, 2) := by decide +kernel
theorem dX12_who_39 : decode cX12_who 39 = .ok (.iconst 1, 1) := by decide +kernel
theorem dX12_who_40 : decode cX12_who 40 = .ok (.aload_n 0, 1) := by decide +kernel
theorem dX12_who_41 : decode cX12_who 41 = .ok (.invokevirtual 133, 3) := by decide +kernel
theorem dX12_who_44 : decode cX12_who 44 = .ok (.ishl, 1) := by decide +kernel
theorem dX12_who_45 : decode cX12_who 45 = .ok (.if_icmp .ge 84, 3) := by decide +kernel
theorem dX12_who_48 : decode cX12_who 48 = .ok (.aload_n 0, 1) := by decide +kernel
theorem dX12_who_49 : decode cX12_who 49 = .ok (.getfield 7, 3) := by decide +kernel
theorem dX12_who_52 : decode cX12_who 52 = .ok (.bipush 27, 2) := by decide +kernel
theorem dX12_who_54 : decode cX12_who 54 = .ok (.iaload, 1) := by decide +kernel
theorem dX12_who_55 : decode cX12_who 55 = .ok (.istore 6, 2) := by decide +kernel
theorem dX12_who_57 : decode cX12_who 57 = .ok (.iconst 0, 1) := by decide +kernel
theorem dX12_who_58 : decode cX12_who 58 = .ok (.istore 7, 2) := by decide +kernel
theorem dX12_who_60 : decode cX12_who 60 = .ok (.iload 7, 2) := by decide +kernel
theorem dX12_who_62 : decode cX12_who 62 = .ok (.aload_n 0, 1) := by decide +kernel
theorem dX12_who_63 : decode cX12_who 63 = .ok (.invokevirtual 133, 3) := by decide +kernel
theorem dX12_who_66 : decode cX12_who 66 = .ok (.if_icmp .ge 35, 3) := by decide +kernel
theorem dX12_who_69 : decode cX12_who 69 = .ok (.iload 5, 2) := by decide +kernel
theorem dX12_who_71 : decode cX12_who 71 = .ok (.iload 7, 2) := by decide +kernel
theorem dX12_who_73 : decode cX12_who 73 = .ok (.ishr, 1) := by decide +kernel
theorem dX12_who_74 : decode cX12_who 74 = .ok (.iconst 1, 1) := by decide +kernel
theorem dX12_who_75 : decode cX12_who 75 = .ok (.iand, 1) := by decide +kernel
theorem dX12_who_76 : decode cX12_who 76 = .ok (.iconst 1, 1) := by decide +kernel
theorem dX12_who_77 : decode cX12_who 77 = .ok (.if_icmp .ne 14, 3) := by decide +kernel
theorem dX12_who_80 : decode cX12_who 80 = .ok (.aload_n 0, 1) := by decide +kernel
theorem dX12_who_81 : decode cX12_who 81 = .ok (.iload 7, 2) := by decide +kernel
theorem dX12_who_83 : decode cX12_who 83 = .ok (.iload 6, 2) := by decide +kernel
theorem dX12_who_85 : decode cX12_who 85 = .ok (.invokevirtual 139, 3) := by decide +kernel
theorem dX12_who_88 : decode cX12_who 88 = .ok (.goto 5, 3) := by decide +kernel
theorem dX12_who_91 : decode cX12_who 91 = .ok (.iload 6, 2) := by decide +kernel
theorem dX12_who_93 : decode cX12_who 93 = .ok (.istore 6, 2) := by decide +kernel
theorem dX12_who_95 : decode cX12_who 95 = .ok (.iinc 7 1, 3) := by decide +kernel
theorem dX12_who_98 : decode cX12_who 98 = .ok (.goto (-38), 3) := by decide +kernel
theorem dX12_who_101 : decode cX12_who 101 = .ok (.iload 6, 2) := by decide +kernel
theorem dX12_who_103 : decode cX12_who 103 = .ok (.iload_n 1, 1) := by decide +kernel
theorem dX12_who_104 : decode cX12_who 104 = .ok (.if_icmp .ne 19, 3) := by decide +kernel
theorem dX12_who_107 : decode cX12_who 107 = .ok (.iload_n 3, 1) := by decide +kernel
theorem dX12_who_108 : decode cX12_who 108 = .ok (.ifCond .ne 8, 3) := by decide +kernel
theorem dX12_who_111 : decode cX12_who 111 = .ok (.iload 5, 2) := by decide +kernel
theorem dX12_who_113 : decode cX12_who 113 = .ok (.goto 5, 3) := by decide +kernel
theorem dX12_who_116 : decode cX12_who 116 = .ok (.iload 4, 2) := by decide +kernel
theorem dX12_who_118 : decode cX12_who 118 = .ok (.istore 4, 2) := by decide +kernel
theorem dX12_who_120 : decode cX12_who 120 = .ok (.iinc 3 1, 3) := by decide +kernel
theorem dX12_who_123 : decode cX12_who 123 = .ok (.iinc 5 1, 3) := by decide +kernel
theorem dX12_who_126 : decode cX12_who 126 = .ok (.goto (-89), 3) := by decide +kernel
theorem dX12_who_129 : decode cX12_who 129 = .ok (.iload_n 2, 1) := by decide +kernel
theorem dX12_who_130 : decode cX12_who 130 = .ok (.ifCond .ne 7, 3) := by decide +kernel
theorem dX12_who_133 : decode cX12_who 133 = .ok (.iload_n 3, 1) := by decide +kernel
theorem dX12_who_134 : decode cX12_who 134 = .ok (.goto 5, 3) := by decide +kernel
theorem dX12_who_137 : decode cX12_who 137 = .ok (.iload 4, 2) := by decide +kernel
theorem dX12_who_139 : decode cX12_who 139 = .ok (.ireturn, 1) := by decide +kernel
theorem dX12_heard_0 : decode cX12_heard 0 = .ok (.iload_n 1, 1) := by decide +kernel
theorem dX12_heard_1 : decode cX12_heard 1 = .ok (.ifCond .ge 10, 3) := by decide +kernel
theorem dX12_heard_4 : decode cX12_heard 4 = .ok (.aload_n 0, 1) := by decide +kernel
theorem dX12_heard_5 : decode cX12_heard 5 = .ok (.bipush (-2), 2) := by decide +kernel
theorem dX12_heard_7 : decode cX12_heard 7 = .ok (.invokevirtual 60, 3) := by decide +kernel
theorem dX12_heard_10 : decode cX12_heard 10 = .ok (.ireturn, 1) := by decide +kernel
theorem dX12_heard_11 : decode cX12_heard 11 = .ok (.aload_n 0, 1) := by decide +kernel
theorem dX12_heard_12 : decode cX12_heard 12 = .ok (.invokevirtual 123, 3) := by decide +kernel
theorem dX12_heard_15 : decode cX12_heard 15 = .ok (.iconst 0, 1) := by decide +kernel
theorem dX12_heard_16 : decode cX12_heard 16 = .ok (.istore_n 2, 1) := by decide +kernel
theorem dX12_heard_17 : decode cX12_heard 17 = .ok (.iconst 0, 1) := by decide +kernel
theorem dX12_heard_18 : decode cX12_heard 18 = .ok (.istore_n 3, 1) := by decide +kernel
theorem dX12_heard_19 : decode cX12_heard 19 = .ok (.iload_n 3, 1) := by decide +kernel
theorem dX12_heard_20 : decode cX12_heard 20 = .ok (.aload_n 0, 1) := by decide +kernel
theorem dX12_heard_21 : decode cX12_heard 21 = .ok (.invokevirtual 133, 3) := by decide +kernel
theorem dX12_heard_24 : decode cX12_heard 24 = .ok (.if_icmp .ge 57, 3) := by decide +kernel
theorem dX12_heard_27 : decode cX12_heard 27 = .ok (.aload_n 0, 1) := by decide +kernel
theorem dX12_heard_28 : decode cX12_heard 28 = .ok (.aload_n 0, 1) := by decide +kernel
theorem dX12_heard_29 : decode cX12_heard 29 = .ok (.getfield 7, 3) := by decide +kernel
theorem dX12_heard_32 : decode cX12_heard 32 = .ok (.bipush 29, 2) := by decide +kernel
theorem dX12_heard_34 : decode cX12_heard 34 = .ok (.iconst 2, 1) := by decide +kernel
theorem dX12_heard_35 : decode cX12_heard 35 = .ok (.iload_n 3, 1) := by decide +kernel
theorem dX12_heard_36 : decode cX12_heard 36 = .ok (.imul, 1) := by decide +kernel
theorem dX12_heard_37 : decode cX12_heard 37 = .ok (.iadd, 1) := by decide +kernel
theorem dX12_heard_38 : decode cX12_heard 38 = .ok (.iaload, 1) := by decide +kernel
theorem dX12_heard_39 : decode cX12_heard 39 = .ok (.aload_n 0, 1) := by decide +kernel
theorem dX12_heard_40 : decode cX12_heard 40 = .ok (.getfield 7, 3) := by decide +kernel
theorem dX12_heard_43 : decode cX12_heard 43 = .ok (.bipush 29, 2) := by decide +kernel
theorem dX12_heard_45 : decode cX12_heard 45 = .ok (.iconst 2, 1) := by decide +kernel
theorem dX12_heard_46 : decode cX12_heard 46 = .ok (.iload_n 3, 1) := by decide +kernel
theorem dX12_heard_47 : decode cX12_heard 47 = .ok (.imul, 1) := by decide +kernel
theorem dX12_heard_48 : decode cX12_heard 48 = .ok (.iadd, 1) := by decide +kernel
theorem dX12_heard_49 : decode cX12_heard 49 = .ok (.iconst 1, 1) := by decide +kernel
theorem dX12_heard_50 : decode cX12_heard 50 = .ok (.iadd, 1) := by decide +kernel
theorem dX12_heard_51 : decode cX12_heard 51 = .ok (.iaload, 1) := by decide +kernel
theorem dX12_heard_52 : decode cX12_heard 52 = .ok (.invokevirtual 126, 3) := by decide +kernel
theorem dX12_heard_55 : decode cX12_heard 55 = .ok (.iload_n 2, 1) := by decide +kernel
theorem dX12_heard_56 : decode cX12_heard 56 = .ok (.aload_n 0, 1) := by decide +kernel
theorem dX12_heard_57 : decode cX12_heard 57 = .ok (.invokevirtual 108, 3) := by decide +kernel
theorem dX12_heard_60 : decode cX12_heard 60 = .ok (.iconst 3, 1) := by decide +kernel
theorem dX12_heard_61 : decode cX12_heard 61 = .ok (.idiv, 1) := by decide +kernel
theorem dX12_heard_62 : decode cX12_heard 62 = .ok (.iload_n 1, 1) := by decide +kernel
theorem dX12_heard_63 : decode cX12_heard 63 = .ok (.if_icmp .ne 9, 3) := by decide +kernel
theorem dX12_heard_66 : decode cX12_heard 66 = .ok (.iconst 1, 1) := by decide +kernel
theorem dX12_heard_67 : decode cX12_heard 67 = .ok (.iload_n 3, 1) := by decide +kernel
theorem dX12_heard_68 : decode cX12_heard 68 = .ok (.ishl, 1) := by decide +kernel
theorem dX12_heard_69 : decode cX12_heard 69 = .ok (.goto 4, 3) := by decide +kernel
theorem dX12_heard_72 : decode cX12_heard 72 = .ok (.iconst 0, 1) := by decide +kernel
theorem dX12_heard_73 : decode cX12_heard 73 = .ok (.ior, 1) := by decide +kernel
theorem dX12_heard_74 : decode cX12_heard 74 = .ok (.istore_n 2, 1) := by decide +kernel
theorem dX12_heard_75 : decode cX12_heard 75 = .ok (.iinc 3 1, 3) := by decide +kernel
theorem dX12_heard_78 : decode cX12_heard 78 = .ok (.goto (-59), 3) := by decide +kernel
theorem dX12_heard_81 : decode cX12_heard 81 = .ok (.iload_n 2, 1) := by decide +kernel
theorem dX12_heard_82 : decode cX12_heard 82 = .ok (.ireturn, 1) := by decide +kernel
theorem dX12_cuts_0 : decode cX12_cuts 0 = .ok (.aload_n 0, 1) := by decide +kernel
theorem dX12_cuts_1 : decode cX12_cuts 1 = .ok (.iload_n 1, 1) := by decide +kernel
theorem dX12_cuts_2 : decode cX12_cuts 2 = .ok (.invokevirtual 158, 3) := by decide +kernel
theorem dX12_cuts_5 : decode cX12_cuts 5 = .ok (.ifCond .ne 10, 3) := by decide +kernel
theorem dX12_cuts_8 : decode cX12_cuts 8 = .ok (.aload_n 0, 1) := by decide +kernel
theorem dX12_cuts_9 : decode cX12_cuts 9 = .ok (.bipush (-10), 2) := by decide +kernel
theorem dX12_cuts_11 : decode cX12_cuts 11 = .ok (.invokevirtual 60, 3) := by decide +kernel
theorem dX12_cuts_14 : decode cX12_cuts 14 = .ok (.ireturn, 1) := by decide +kernel
theorem dX12_cuts_15 : decode cX12_cuts 15 = .ok (.aload_n 0, 1) := by decide +kernel
theorem dX12_cuts_16 : decode cX12_cuts 16 = .ok (.invokevirtual 123, 3) := by decide +kernel
theorem dX12_cuts_19 : decode cX12_cuts 19 = .ok (.iconst (-1), 1) := by decide +kernel
theorem dX12_cuts_20 : decode cX12_cuts 20 = .ok (.istore_n 2, 1) := by decide +kernel
theorem dX12_cuts_21 : decode cX12_cuts 21 = .ok (.aload_n 0, 1) := by decide +kernel
theorem dX12_cuts_22 : decode cX12_cuts 22 = .ok (.getfield 89, 3) := by decide +kernel
theorem dX12_cuts_25 : decode cX12_cuts 25 = .ok (.istore_n 3, 1) := by decide +kernel
theorem dX12_cuts_26 : decode cX12_cuts 26 = .ok (.iconst 0, 1) := by decide +kernel
theorem dX12_cuts_27 : decode cX12_cuts 27 = .ok (.istore 4, 2) := by decide +kernel
theorem dX12_cuts_29 : decode cX12_cuts 29 = .ok (.iload 4, 2) := by decide +kernel
theorem dX12_cuts_31 : decode cX12_cuts 31 = .ok (.bipush 32, 2) := by decide +kernel
theorem dX12_cuts_33 : decode cX12_cuts 33 = .ok (.if_icmp .ge 122, 3) := by decide +kernel
theorem dX12_cuts_36 : decode cX12_cuts 36 = .ok (.iload 4, 2) := by decide +kernel
theorem dX12_cuts_38 : decode cX12_cuts 38 = .ok (.iload_n 3, 1) := by decide +kernel
theorem dX12_cuts_39 : decode cX12_cuts 39 = .ok (.iconst (-1), 1) := by decide +kernel
theorem dX12_cuts_40 : decode cX12_cuts 40 = .ok (.ixor, 1) := by decide +kernel
theorem dX12_cuts_41 : decode cX12_cuts 41 = .ok (.iand, 1) := by decide +kernel
theorem dX12_cuts_42 : decode cX12_cuts 42 = .ok (.ifCond .ne 24, 3) := by decide +kernel
theorem dX12_cuts_45 : decode cX12_cuts 45 = .ok (.iload_n 2, 1) := by decide +kernel
theorem dX12_cuts_46 : decode cX12_cuts 46 = .ok (.iconst (-1), 1) := by decide +kernel
theorem dX12_cuts_47 : decode cX12_cuts 47 = .ok (.if_icmp .eq 15, 3) := by decide +kernel
theorem dX12_cuts_50 : decode cX12_cuts 50 = .ok (.iload 4, 2) := by decide +kernel
theorem dX12_cuts_52 : decode cX12_cuts 52 = .ok (.invokestatic 136, 3) := by decide +kernel
theorem dX12_cuts_55 : decode cX12_cuts 55 = .ok (.iload_n 2, 1) := by decide +kernel
theorem dX12_cuts_56 : decode cX12_cuts 56 = .ok (.invokestatic 136, 3) := by decide +kernel
theorem dX12_cuts_59 : decode cX12_cuts 59 = .ok (.if_icmp .ge 7, 3) := by decide +kernel
theorem dX12_cuts_62 : decode cX12_cuts 62 = .ok (.iconst 1, 1) := by decide +kernel
theorem dX12_cuts_63 : decode cX12_cuts 63 = .ok (.goto 4, 3) := by decide +kernel
theorem dX12_cuts_66 : decode cX12_cuts 66 = .ok (.iconst 0, 1) := by decide +kernel
theorem dX12_cuts_67 : decode cX12_cuts 67 = .ok (.istore 5, 2) := by decide +kernel
theorem dX12_cuts_69 : decode cX12_cuts 69 = .ok (.aload_n 0, 1) := by decide +kernel
theorem dX12_cuts_70 : decode cX12_cuts 70 = .ok (.iload_n 3, 1) := by decide +kernel
theorem dX12_cuts_71 : decode cX12_cuts 71 = .ok (.iload 4, 2) := by decide +kernel
theorem dX12_cuts_73 : decode cX12_cuts 73 = .ok (.iconst (-1), 1) := by decide +kernel
theorem dX12_cuts_74 : decode cX12_cuts 74 = .ok (.ixor, 1) := by decide +kernel
theorem dX12_cuts_75 : decode cX12_cuts 75 = .ok (.iand, 1) := by decide +kernel
theorem dX12_cuts_76 : decode cX12_cuts 76 = .ok (.putfield 89, 3) := by decide +kernel
theorem dX12_cuts_79 : decode cX12_cuts 79 = .ok (.iconst 0, 1) := by decide +kernel
theorem dX12_cuts_80 : decode cX12_cuts 80 = .ok (.istore 6, 2) := by decide +kernel
theorem dX12_cuts_82 : decode cX12_cuts 82 = .ok (.iload 6, 2) := by decide +kernel
theorem dX12_cuts_84 : decode cX12_cuts 84 = .ok (.aload_n 0, 1) := by decide +kernel
theorem dX12_cuts_85 : decode cX12_cuts 85 = .ok (.invokevirtual 133, 3) := by decide +kernel
theorem dX12_cuts_88 : decode cX12_cuts 88 = .ok (.if_icmp .ge 49, 3) := by decide +kernel
theorem dX12_cuts_91 : decode cX12_cuts 91 = .ok (.iload 5, 2) := by decide +kernel
theorem dX12_cuts_93 : decode cX12_cuts 93 = .ok (.ifCond .eq 44, 3) := by decide +kernel
theorem dX12_cuts_96 : decode cX12_cuts 96 = .ok (.aload_n 0, 1) := by decide +kernel
theorem dX12_cuts_97 : decode cX12_cuts 97 = .ok (.iload 6, 2) := by decide +kernel
theorem dX12_cuts_99 : decode cX12_cuts 99 = .ok (.aload_n 0, 1) := by decide +kernel
theorem dX12_cuts_100 : decode cX12_cuts 100 = .ok (.getfield 7, 3) := by decide +kernel
theorem dX12_cuts_103 : decode cX12_cuts 103 = .ok (.bipush 27, 2) := by decide +kernel
theorem dX12_cuts_105 : decode cX12_cuts 105 = .ok (.iaload, 1) := by decide +kernel
theorem dX12_cuts_106 : decode cX12_cuts 106 = .ok (.invokevirtual 139, 3) := by decide +kernel
theorem dX12_cuts_109 : decode cX12_cuts 109 = .ok (.aload_n 0, 1) := by decide +kernel
theorem dX12_cuts_110 : decode cX12_cuts 110 = .ok (.getfield 7, 3) := by decide +kernel
theorem dX12_cuts_113 : decode cX12_cuts 113 = .ok (.bipush 27, 2) := by decide +kernel
theorem dX12_cuts_115 : decode cX12_cuts 115 = .ok (.iaload, 1) := by decide +kernel
theorem dX12_cuts_116 : decode cX12_cuts 116 = .ok (.iconst (-1), 1) := by decide +kernel
theorem dX12_cuts_117 : decode cX12_cuts 117 = .ok (.ixor, 1) := by decide +kernel
theorem dX12_cuts_118 : decode cX12_cuts 118 = .ok (.iand, 1) := by decide +kernel
theorem dX12_cuts_119 : decode cX12_cuts 119 = .ok (.iload_n 1, 1) := by decide +kernel
theorem dX12_cuts_120 : decode cX12_cuts 120 = .ok (.iand, 1) := by decide +kernel
theorem dX12_cuts_121 : decode cX12_cuts 121 = .ok (.ifCond .ne 7, 3) := by decide +kernel
theorem dX12_cuts_124 : decode cX12_cuts 124 = .ok (.iconst 1, 1) := by decide +kernel
theorem dX12_cuts_125 : decode cX12_cuts 125 = .ok (.goto 4, 3) := by decide +kernel
theorem dX12_cuts_128 : decode cX12_cuts 128 = .ok (.iconst 0, 1) := by decide +kernel
theorem dX12_cuts_129 : decode cX12_cuts 129 = .ok (.istore 5, 2) := by decide +kernel
theorem dX12_cuts_131 : decode cX12_cuts 131 = .ok (.iinc 6 1, 3) := by decide +kernel
theorem dX12_cuts_134 : decode cX12_cuts 134 = .ok (.goto (-52), 3) := by decide +kernel
theorem dX12_cuts_137 : decode cX12_cuts 137 = .ok (.iload 5, 2) := by decide +kernel
theorem dX12_cuts_139 : decode cX12_cuts 139 = .ok (.ifCond .eq 8, 3) := by decide +kernel
theorem dX12_cuts_142 : decode cX12_cuts 142 = .ok (.iload 4, 2) := by decide +kernel
theorem dX12_cuts_144 : decode cX12_cuts 144 = .ok (.goto 4, 3) := by decide +kernel
theorem dX12_cuts_147 : decode cX12_cuts 147 = .ok (.iload_n 2, 1) := by decide +kernel
theorem dX12_cuts_148 : decode cX12_cuts 148 = .ok (.istore_n 2, 1) := by decide +kernel
theorem dX12_cuts_149 : decode cX12_cuts 149 = .ok (.iinc 4 1, 3) := by decide +kernel
theorem dX12_cuts_152 : decode cX12_cuts 152 = .ok (.goto (-123), 3) := by decide +kernel
theorem dX12_cuts_155 : decode cX12_cuts 155 = .ok (.iload_n 2, 1) := by decide +kernel
theorem dX12_cuts_156 : decode cX12_cuts 156 = .ok (.ireturn, 1) := by decide +kernel
theorem dX12_rules_0 : decode cX12_rules 0 = .ok (.aload_n 0, 1) := by decide +kernel
theorem dX12_rules_1 : decode cX12_rules 1 = .ok (.getfield 7, 3) := by decide +kernel
theorem dX12_rules_4 : decode cX12_rules 4 = .ok (.bipush 39, 2) := by decide +kernel
theorem dX12_rules_6 : decode cX12_rules 6 = .ok (.iaload, 1) := by decide +kernel
theorem dX12_rules_7 : decode cX12_rules 7 = .ok (.ireturn, 1) := by decide +kernel
theorem dX12_rule_0 : decode cX12_rule 0 = .ok (.aload_n 0, 1) := by decide +kernel
theorem dX12_rule_1 : decode cX12_rule 1 = .ok (.iload_n 1, 1) := by decide +kernel
theorem dX12_rule_2 : decode cX12_rule 2 = .ok (.iload_n 2, 1) := by decide +kernel
theorem dX12_rule_3 : decode cX12_rule 3 = .ok (.invokevirtual 119, 3) := by decide +kernel
theorem dX12_rule_6 : decode cX12_rule 6 = .ok (.ifCond .eq 11, 3) := by decide +kernel
theorem dX12_rule_9 : decode cX12_rule 9 = .ok (.aload_n 0, 1) := by decide +kernel
theorem dX12_rule_10 : decode cX12_rule 10 = .ok (.iload_n 3, 1) := by decide +kernel
theorem dX12_rule_11 : decode cX12_rule 11 = .ok (.invokevirtual 158, 3) := by decide +kernel
theorem dX12_rule_14 : decode cX12_rule 14 = .ok (.ifCond .ne 10, 3) := by decide +kernel
theorem dX12_rule_17 : decode cX12_rule 17 = .ok (.aload_n 0, 1) := by decide +kernel
theorem dX12_rule_18 : decode cX12_rule 18 = .ok (.bipush (-2), 2) := by decide +kernel
theorem dX12_rule_20 : decode cX12_rule 20 = .ok (.invokevirtual 60, 3) := by decide +kernel
theorem dX12_rule_23 : decode cX12_rule 23 = .ok (.ireturn, 1) := by decide +kernel
theorem dX12_rule_24 : decode cX12_rule 24 = .ok (.aload_n 0, 1) := by decide +kernel
theorem dX12_rule_25 : decode cX12_rule 25 = .ok (.invokevirtual 164, 3) := by decide +kernel
theorem dX12_rule_28 : decode cX12_rule 28 = .ok (.istore 4, 2) := by decide +kernel
theorem dX12_rule_30 : decode cX12_rule 30 = .ok (.iload 4, 2) := by decide +kernel
theorem dX12_rule_32 : decode cX12_rule 32 = .ok (.iconst 4, 1) := by decide +kernel
theorem dX12_rule_33 : decode cX12_rule 33 = .ok (.if_icmp .ne 8, 3) := by decide +kernel
theorem dX12_rule_36 : decode cX12_rule 36 = .ok (.aload_n 0, 1) := by decide +kernel
theorem dX12_rule_37 : decode cX12_rule 37 = .ok (.invokevirtual 64, 3) := by decide +kernel
theorem dX12_rule_40 : decode cX12_rule 40 = .ok (.ireturn, 1) := by decide +kernel
theorem dX12_rule_41 : decode cX12_rule 41 = .ok (.aload_n 0, 1) := by decide +kernel
theorem dX12_rule_42 : decode cX12_rule 42 = .ok (.getfield 7, 3) := by decide +kernel
theorem dX12_rule_45 : decode cX12_rule 45 = .ok (.iload_n 1, 1) := by decide +kernel
theorem dX12_rule_46 : decode cX12_rule 46 = .ok (.iload_n 2, 1) := by decide +kernel
theorem dX12_rule_47 : decode cX12_rule 47 = .ok (.iload_n 3, 1) := by decide +kernel
theorem dX12_rule_48 : decode cX12_rule 48 = .ok (.invokestatic 167, 3) := by decide +kernel
theorem dX12_rule_51 : decode cX12_rule 51 = .ok (.iload 4, 2) := by decide +kernel
theorem dX12_rule_53 : decode cX12_rule 53 = .ok (.ireturn, 1) := by decide +kernel
theorem dX12_layRule_0 : decode cX12_layRule 0 = .ok (.bipush 40, 2) := by decide +kernel
theorem dX12_layRule_2 : decode cX12_layRule 2 = .ok (.iconst 3, 1) := by decide +kernel
theorem dX12_layRule_3 : decode cX12_layRule 3 = .ok (.aload_n 0, 1) := by decide +kernel
theorem dX12_layRule_4 : decode cX12_layRule 4 = .ok (.bipush 39, 2) := by decide +kernel
theorem dX12_layRule_6 : decode cX12_layRule 6 = .ok (.iaload, 1) := by decide +kernel
theorem dX12_layRule_7 : decode cX12_layRule 7 = .ok (.imul, 1) := by decide +kernel
theorem dX12_layRule_8 : decode cX12_layRule 8 = .ok (.iadd, 1) := by decide +kernel
theorem dX12_layRule_9 : decode cX12_layRule 9 = .ok (.istore 4, 2) := by decide +kernel
theorem dX12_layRule_11 : decode cX12_layRule 11 = .ok (.aload_n 0, 1) := by decide +kernel
theorem dX12_layRule_12 : decode cX12_layRule 12 = .ok (.iload 4, 2) := by decide +kernel
theorem dX12_layRule_14 : decode cX12_layRule 14 = .ok (.iload_n 1, 1) := by decide +kernel
theorem dX12_layRule_15 : decode cX12_layRule 15 = .ok (.iastore, 1) := by decide +kernel
theorem dX12_layRule_16 : decode cX12_layRule 16 = .ok (.aload_n 0, 1) := by decide +kernel
theorem dX12_layRule_17 : decode cX12_layRule 17 = .ok (.iload 4, 2) := by decide +kernel
theorem dX12_layRule_19 : decode cX12_layRule 19 = .ok (.iconst 1, 1) := by decide +kernel
theorem dX12_layRule_20 : decode cX12_layRule 20 = .ok (.iadd, 1) := by decide +kernel
theorem dX12_layRule_21 : decode cX12_layRule 21 = .ok (.iload_n 2, 1) := by decide +kernel
theorem dX12_layRule_22 : decode cX12_layRule 22 = .ok (.iastore, 1) := by decide +kernel
theorem dX12_layRule_23 : decode cX12_layRule 23 = .ok (.aload_n 0, 1) := by decide +kernel
theorem dX12_layRule_24 : decode cX12_layRule 24 = .ok (.iload 4, 2) := by decide +kernel
theorem dX12_layRule_26 : decode cX12_layRule 26 = .ok (.iconst 2, 1) := by decide +kernel
theorem dX12_layRule_27 : decode cX12_layRule 27 = .ok (.iadd, 1) := by decide +kernel
theorem dX12_layRule_28 : decode cX12_layRule 28 = .ok (.iload_n 3, 1) := by decide +kernel
theorem dX12_layRule_29 : decode cX12_layRule 29 = .ok (.iastore, 1) := by decide +kernel
theorem dX12_layRule_30 : decode cX12_layRule 30 = .ok (.aload_n 0, 1) := by decide +kernel
theorem dX12_layRule_31 : decode cX12_layRule 31 = .ok (.bipush 39, 2) := by decide +kernel
theorem dX12_layRule_33 : decode cX12_layRule 33 = .ok (.dup2, 1) := by decide +kernel
theorem dX12_layRule_34 : decode cX12_layRule 34 = .ok (.iaload, 1) := by decide +kernel
theorem dX12_layRule_35 : decode cX12_layRule 35 = .ok (.iconst 1, 1) := by decide +kernel
theorem dX12_layRule_36 : decode cX12_layRule 36 = .ok (.iadd, 1) := by decide +kernel
theorem dX12_layRule_37 : decode cX12_layRule 37 = .ok (.iastore, 1) := by decide +kernel
theorem dX12_layRule_38 : decode cX12_layRule 38 = .ok (.return_, 1) := by decide +kernel
theorem dX12_free_0 : decode cX12_free 0 = .ok (.aload_n 0, 1) := by decide +kernel
theorem dX12_free_1 : decode cX12_free 1 = .ok (.invokevirtual 164, 3) := by decide +kernel
theorem dX12_free_4 : decode cX12_free 4 = .ok (.istore_n 1, 1) := by decide +kernel
theorem dX12_free_5 : decode cX12_free 5 = .ok (.aload_n 0, 1) := by decide +kernel
theorem dX12_free_6 : decode cX12_free 6 = .ok (.getfield 7, 3) := by decide +kernel
theorem dX12_free_9 : decode cX12_free 9 = .ok (.bipush 39, 2) := by decide +kernel
theorem dX12_free_11 : decode cX12_free 11 = .ok (.iconst 0, 1) := by decide +kernel
theorem dX12_free_12 : decode cX12_free 12 = .ok (.iastore, 1) := by decide +kernel
theorem dX12_free_13 : decode cX12_free 13 = .ok (.iload_n 1, 1) := by decide +kernel
theorem dX12_free_14 : decode cX12_free 14 = .ok (.ireturn, 1) := by decide +kernel
theorem dX12_isSo_0 : decode cX12_isSo 0 = .ok (.iconst 1, 1) := by decide +kernel
theorem dX12_isSo_1 : decode cX12_isSo 1 = .ok (.istore_n 2, 1) := by decide +kernel
theorem dX12_isSo_2 : decode cX12_isSo 2 = .ok (.iconst 0, 1) := by decide +kernel
theorem dX12_isSo_3 : decode cX12_isSo 3 = .ok (.istore_n 3, 1) := by decide +kernel
theorem dX12_isSo_4 : decode cX12_isSo 4 = .ok (.iload_n 3, 1) := by decide +kernel
theorem dX12_isSo_5 : decode cX12_isSo 5 = .ok (.aload_n 0, 1) := by decide +kernel
theorem dX12_isSo_6 : decode cX12_isSo 6 = .ok (.invokevirtual 164, 3) := by decide +kernel
theorem dX12_isSo_9 : decode cX12_isSo 9 = .ok (.if_icmp .ge 77, 3) := by decide +kernel
theorem dX12_isSo_12 : decode cX12_isSo 12 = .ok (.iload_n 2, 1) := by decide +kernel
theorem dX12_isSo_13 : decode cX12_isSo 13 = .ok (.ifCond .eq 73, 3) := by decide +kernel
theorem dX12_isSo_16 : decode cX12_isSo 16 = .ok (.aload_n 0, 1) := by decide +kernel
theorem dX12_isSo_17 : decode cX12_isSo 17 = .ok (.aload_n 0, 1) := by decide +kernel
theorem dX12_isSo_18 : decode cX12_isSo 18 = .ok (.getfield 7, 3) := by decide +kernel
theorem dX12_isSo_21 : decode cX12_isSo 21 = .ok (.bipush 40, 2) := by decide +kernel
theorem dX12_isSo_23 : decode cX12_isSo 23 = .ok (.iconst 3, 1) := by decide +kernel
theorem dX12_isSo_24 : decode cX12_isSo 24 = .ok (.iload_n 3, 1) := by decide +kernel
theorem dX12_isSo_25 : decode cX12_isSo 25 = .ok (.imul, 1) := by decide +kernel
theorem dX12_isSo_26 : decode cX12_isSo 26 = .ok (.iadd, 1) := by decide +kernel
theorem dX12_isSo_27 : decode cX12_isSo 27 = .ok (.iaload, 1) := by decide +kernel
theorem dX12_isSo_28 : decode cX12_isSo 28 = .ok (.aload_n 0, 1) := by decide +kernel
theorem dX12_isSo_29 : decode cX12_isSo 29 = .ok (.getfield 7, 3) := by decide +kernel
theorem dX12_isSo_32 : decode cX12_isSo 32 = .ok (.bipush 40, 2) := by decide +kernel
theorem dX12_isSo_34 : decode cX12_isSo 34 = .ok (.iconst 3, 1) := by decide +kernel
theorem dX12_isSo_35 : decode cX12_isSo 35 = .ok (.iload_n 3, 1) := by decide +kernel
theorem dX12_isSo_36 : decode cX12_isSo 36 = .ok (.imul, 1) := by decide +kernel
theorem dX12_isSo_37 : decode cX12_isSo 37 = .ok (.iadd, 1) := by decide +kernel
theorem dX12_isSo_38 : decode cX12_isSo 38 = .ok (.iconst 1, 1) := by decide +kernel
theorem dX12_isSo_39 : decode cX12_isSo 39 = .ok (.iadd, 1) := by decide +kernel
theorem dX12_isSo_40 : decode cX12_isSo 40 = .ok (.iaload, 1) := by decide +kernel
theorem dX12_isSo_41 : decode cX12_isSo 41 = .ok (.invokevirtual 126, 3) := by decide +kernel
theorem dX12_isSo_44 : decode cX12_isSo 44 = .ok (.iload_n 1, 1) := by decide +kernel
theorem dX12_isSo_45 : decode cX12_isSo 45 = .ok (.iload_n 3, 1) := by decide +kernel
theorem dX12_isSo_46 : decode cX12_isSo 46 = .ok (.ishr, 1) := by decide +kernel
theorem dX12_isSo_47 : decode cX12_isSo 47 = .ok (.iconst 1, 1) := by decide +kernel
theorem dX12_isSo_48 : decode cX12_isSo 48 = .ok (.iand, 1) := by decide +kernel
theorem dX12_isSo_49 : decode cX12_isSo 49 = .ok (.iconst 1, 1) := by decide +kernel
theorem dX12_isSo_50 : decode cX12_isSo 50 = .ok (.if_icmp .eq 24, 3) := by decide +kernel
theorem dX12_isSo_53 : decode cX12_isSo 53 = .ok (.aload_n 0, 1) := by decide +kernel
theorem dX12_isSo_54 : decode cX12_isSo 54 = .ok (.iconst 0, 1) := by decide +kernel
theorem dX12_isSo_55 : decode cX12_isSo 55 = .ok (.invokevirtual 114, 3) := by decide +kernel
theorem dX12_isSo_58 : decode cX12_isSo 58 = .ok (.aload_n 0, 1) := by decide +kernel
theorem dX12_isSo_59 : decode cX12_isSo 59 = .ok (.getfield 7, 3) := by decide +kernel
theorem dX12_isSo_62 : decode cX12_isSo 62 = .ok (.bipush 40, 2) := by decide +kernel
theorem dX12_isSo_64 : decode cX12_isSo 64 = .ok (.iconst 3, 1) := by decide +kernel
theorem dX12_isSo_65 : decode cX12_isSo 65 = .ok (.iload_n 3, 1) := by decide +kernel
theorem dX12_isSo_66 : decode cX12_isSo 66 = .ok (.imul, 1) := by decide +kernel
theorem dX12_isSo_67 : decode cX12_isSo 67 = .ok (.iadd, 1) := by decide +kernel
theorem dX12_isSo_68 : decode cX12_isSo 68 = .ok (.iconst 2, 1) := by decide +kernel
theorem dX12_isSo_69 : decode cX12_isSo 69 = .ok (.iadd, 1) := by decide +kernel
theorem dX12_isSo_70 : decode cX12_isSo 70 = .ok (.iaload, 1) := by decide +kernel
theorem dX12_isSo_71 : decode cX12_isSo 71 = .ok (.if_icmp .ne 7, 3) := by decide +kernel
theorem dX12_isSo_74 : decode cX12_isSo 74 = .ok (.iconst 1, 1) := by decide +kernel
theorem dX12_isSo_75 : decode cX12_isSo 75 = .ok (.goto 4, 3) := by decide +kernel
theorem dX12_isSo_78 : decode cX12_isSo 78 = .ok (.iconst 0, 1) := by decide +kernel
theorem dX12_isSo_79 : decode cX12_isSo 79 = .ok (.istore_n 2, 1) := by decide +kernel
theorem dX12_isSo_80 : decode cX12_isSo 80 = .ok (.iinc 3 1, 3) := by decide +kernel
theorem dX12_isSo_83 : decode cX12_isSo 83 = .ok (.goto (-79), 3) := by decide +kernel
theorem dX12_isSo_86 : decode cX12_isSo 86 = .ok (.iload_n 2, 1) := by decide +kernel
theorem dX12_isSo_87 : decode cX12_isSo 87 = .ok (.ireturn, 1) := by decide +kernel
theorem dX12_findSlacks_0 : decode cX12_findSlacks 0 = .ok (.aload_n 0, 1) := by decide +kernel
theorem dX12_findSlacks_1 : decode cX12_findSlacks 1 = .ok (.aload_n 0, 1) := by decide +kernel
theorem dX12_findSlacks_2 : decode cX12_findSlacks 2 = .ok (.invokevirtual 155, 3) := by decide +kernel
theorem dX12_findSlacks_5 : decode cX12_findSlacks 5 = .ok (.putfield 89, 3) := by decide +kernel
theorem dX12_findSlacks_8 : decode cX12_findSlacks 8 = .ok (.iconst 1, 1) := by decide +kernel
theorem dX12_findSlacks_9 : decode cX12_findSlacks 9 = .ok (.istore_n 2, 1) := by decide +kernel
theorem dX12_findSlacks_10 : decode cX12_findSlacks 10 = .ok (.iconst 0, 1) := by decide +kernel
theorem dX12_findSlacks_11 : decode cX12_findSlacks 11 = .ok (.istore_n 3, 1) := by decide +kernel
theorem dX12_findSlacks_12 : decode cX12_findSlacks 12 = .ok (.iload_n 3, 1) := by decide +kernel
theorem dX12_findSlacks_13 : decode cX12_findSlacks 13 = .ok (.aload_n 0, 1) := by decide +kernel
theorem dX12_findSlacks_14 : decode cX12_findSlacks 14 = .ok (.invokevirtual 48, 3) := by decide +kernel
theorem dX12_findSlacks_17 : decode cX12_findSlacks 17 = .ok (.if_icmp .ge 14, 3) := by decide +kernel
theorem dX12_findSlacks_20 : decode cX12_findSlacks 20 = .ok (.iload_n 2, 1) := by decide +kernel
theorem dX12_findSlacks_21 : decode cX12_findSlacks 21 = .ok (.bipush 10, 2) := by decide +kernel
theorem dX12_findSlacks_23 : decode cX12_findSlacks 23 = .ok (.imul, 1) := by decide +kernel
theorem dX12_findSlacks_24 : decode cX12_findSlacks 24 = .ok (.istore_n 2, 1) := by decide +kernel
theorem dX12_findSlacks_25 : decode cX12_findSlacks 25 = .ok (.iinc 3 1, 3) := by decide +kernel
theorem dX12_findSlacks_28 : decode cX12_findSlacks 28 = .ok (.goto (-16), 3) := by decide +kernel
theorem dX12_findSlacks_31 : decode cX12_findSlacks 31 = .ok (.iconst 0, 1) := by decide +kernel
theorem dX12_findSlacks_32 : decode cX12_findSlacks 32 = .ok (.istore_n 3, 1) := by decide +kernel
theorem dX12_findSlacks_33 : decode cX12_findSlacks 33 = .ok (.iload_n 3, 1) := by decide +kernel
theorem dX12_findSlacks_34 : decode cX12_findSlacks 34 = .ok (.iload_n 2, 1) := by decide +kernel
theorem dX12_findSlacks_35 : decode cX12_findSlacks 35 = .ok (.if_icmp .ge 60, 3) := by decide +kernel
theorem dX12_findSlacks_38 : decode cX12_findSlacks 38 = .ok (.iload_n 3, 1) := by decide +kernel
theorem dX12_findSlacks_39 : decode cX12_findSlacks 39 = .ok (.istore 4, 2) := by decide +kernel
theorem dX12_findSlacks_41 : decode cX12_findSlacks 41 = .ok (.aload_n 0, 1) := by decide +kernel
theorem dX12_findSlacks_42 : decode cX12_findSlacks 42 = .ok (.invokevirtual 48, 3) := by decide +kernel
theorem dX12_findSlacks_45 : decode cX12_findSlacks 45 = .ok (.iconst 1, 1) := by decide +kernel
theorem dX12_findSlacks_46 : decode cX12_findSlacks 46 = .ok (.isub, 1) := by decide +kernel
theorem dX12_findSlacks_47 : decode cX12_findSlacks 47 = .ok (.istore 5, 2) := by decide +kernel
theorem dX12_findSlacks_49 : decode cX12_findSlacks 49 = .ok (.iload 5, 2) := by decide +kernel
theorem dX12_findSlacks_51 : decode cX12_findSlacks 51 = .ok (.ifCond .lt 28, 3) := by decide +kernel
theorem dX12_findSlacks_54 : decode cX12_findSlacks 54 = .ok (.aload_n 0, 1) := by decide +kernel
theorem dX12_findSlacks_55 : decode cX12_findSlacks 55 = .ok (.getfield 27, 3) := by decide +kernel
theorem dX12_findSlacks_58 : decode cX12_findSlacks 58 = .ok (.iload 5, 2) := by decide +kernel
theorem dX12_findSlacks_60 : decode cX12_findSlacks 60 = .ok (.iload 4, 2) := by decide +kernel
theorem dX12_findSlacks_62 : decode cX12_findSlacks 62 = .ok (.bipush 10, 2) := by decide +kernel
theorem dX12_findSlacks_64 : decode cX12_findSlacks 64 = .ok (.irem, 1) := by decide +kernel
theorem dX12_findSlacks_65 : decode cX12_findSlacks 65 = .ok (.iastore, 1) := by decide +kernel
theorem dX12_findSlacks_66 : decode cX12_findSlacks 66 = .ok (.iload 4, 2) := by decide +kernel
theorem dX12_findSlacks_68 : decode cX12_findSlacks 68 = .ok (.bipush 10, 2) := by decide +kernel
theorem dX12_findSlacks_70 : decode cX12_findSlacks 70 = .ok (.idiv, 1) := by decide +kernel
theorem dX12_findSlacks_71 : decode cX12_findSlacks 71 = .ok (.istore 4, 2) := by decide +kernel
theorem dX12_findSlacks_73 : decode cX12_findSlacks 73 = .ok (.iinc 5 (-1), 3) := by decide +kernel
theorem dX12_findSlacks_76 : decode cX12_findSlacks 76 = .ok (.goto (-27), 3) := by decide +kernel
theorem dX12_findSlacks_79 : decode cX12_findSlacks 79 = .ok (.aload_n 0, 1) := by decide +kernel
theorem dX12_findSlacks_80 : decode cX12_findSlacks 80 = .ok (.iload_n 1, 1) := by decide +kernel
theorem dX12_findSlacks_81 : decode cX12_findSlacks 81 = .ok (.invokevirtual 171, 3) := by decide +kernel
theorem dX12_findSlacks_84 : decode cX12_findSlacks 84 = .ok (.ifCond .eq 5, 3) := by decide +kernel
theorem dX12_findSlacks_87 : decode cX12_findSlacks 87 = .ok (.iconst 1, 1) := by decide +kernel
theorem dX12_findSlacks_88 : decode cX12_findSlacks 88 = .ok (.ireturn, 1) := by decide +kernel
theorem dX12_findSlacks_89 : decode cX12_findSlacks 89 = .ok (.iinc 3 1, 3) := by decide +kernel
theorem dX12_findSlacks_92 : decode cX12_findSlacks 92 = .ok (.goto (-59), 3) := by decide +kernel
theorem dX12_findSlacks_95 : decode cX12_findSlacks 95 = .ok (.iconst 0, 1) := by decide +kernel
theorem dX12_findSlacks_96 : decode cX12_findSlacks 96 = .ok (.ireturn, 1) := by decide +kernel
theorem dX12_slack_0 : decode cX12_slack 0 = .ok (.aload_n 0, 1) := by decide +kernel
theorem dX12_slack_1 : decode cX12_slack 1 = .ok (.iload_n 1, 1) := by decide +kernel
theorem dX12_slack_2 : decode cX12_slack 2 = .ok (.invokevirtual 71, 3) := by decide +kernel
theorem dX12_slack_5 : decode cX12_slack 5 = .ok (.ifCond .ne 10, 3) := by decide +kernel
theorem dX12_slack_8 : decode cX12_slack 8 = .ok (.aload_n 0, 1) := by decide +kernel
theorem dX12_slack_9 : decode cX12_slack 9 = .ok (.bipush (-10), 2) := by decide +kernel
theorem dX12_slack_11 : decode cX12_slack 11 = .ok (.invokevirtual 60, 3) := by decide +kernel
theorem dX12_slack_14 : decode cX12_slack 14 = .ok (.ireturn, 1) := by decide +kernel
theorem dX12_slack_15 : decode cX12_slack 15 = .ok (.aload_n 0, 1) := by decide +kernel
theorem dX12_slack_16 : decode cX12_slack 16 = .ok (.iconst 0, 1) := by decide +kernel
theorem dX12_slack_17 : decode cX12_slack 17 = .ok (.invokevirtual 174, 3) := by decide +kernel
theorem dX12_slack_20 : decode cX12_slack 20 = .ok (.ifCond .eq 12, 3) := by decide +kernel
theorem dX12_slack_23 : decode cX12_slack 23 = .ok (.aload_n 0, 1) := by decide +kernel
theorem dX12_slack_24 : decode cX12_slack 24 = .ok (.getfield 27, 3) := by decide +kernel
theorem dX12_slack_27 : decode cX12_slack 27 = .ok (.iload_n 1, 1) := by decide +kernel
theorem dX12_slack_28 : decode cX12_slack 28 = .ok (.iaload, 1) := by decide +kernel
theorem dX12_slack_29 : decode cX12_slack 29 = .ok (.goto 4, 3) := by decide +kernel
theorem dX12_slack_32 : decode cX12_slack 32 = .ok (.iconst (-1), 1) := by decide +kernel
theorem dX12_slack_33 : decode cX12_slack 33 = .ok (.ireturn, 1) := by decide +kernel
theorem dX12_giveUp_0 : decode cX12_giveUp 0 = .ok (.iconst 1, 1) := by decide +kernel
theorem dX12_giveUp_1 : decode cX12_giveUp 1 = .ok (.aload_n 0, 1) := by decide +kernel
theorem dX12_giveUp_2 : decode cX12_giveUp 2 = .ok (.invokevirtual 164, 3) := by decide +kernel
theorem dX12_giveUp_5 : decode cX12_giveUp 5 = .ok (.ishl, 1) := by decide +kernel
theorem dX12_giveUp_6 : decode cX12_giveUp 6 = .ok (.iconst 1, 1) := by decide +kernel
theorem dX12_giveUp_7 : decode cX12_giveUp 7 = .ok (.isub, 1) := by decide +kernel
theorem dX12_giveUp_8 : decode cX12_giveUp 8 = .ok (.istore_n 1, 1) := by decide +kernel
theorem dX12_giveUp_9 : decode cX12_giveUp 9 = .ok (.iconst 0, 1) := by decide +kernel
theorem dX12_giveUp_10 : decode cX12_giveUp 10 = .ok (.istore_n 2, 1) := by decide +kernel
theorem dX12_giveUp_11 : decode cX12_giveUp 11 = .ok (.iload_n 2, 1) := by decide +kernel
theorem dX12_giveUp_12 : decode cX12_giveUp 12 = .ok (.iconst 1, 1) := by decide +kernel
theorem dX12_giveUp_13 : decode cX12_giveUp 13 = .ok (.aload_n 0, 1) := by decide +kernel
theorem dX12_giveUp_14 : decode cX12_giveUp 14 = .ok (.invokevirtual 164, 3) := by decide +kernel
theorem dX12_giveUp_17 : decode cX12_giveUp 17 = .ok (.ishl, 1) := by decide +kernel
theorem dX12_giveUp_18 : decode cX12_giveUp 18 = .ok (.if_icmp .ge 42, 3) := by decide +kernel
theorem dX12_giveUp_21 : decode cX12_giveUp 21 = .ok (.iload_n 1, 1) := by decide +kernel
theorem dX12_giveUp_22 : decode cX12_giveUp 22 = .ok (.invokestatic 136, 3) := by decide +kernel
theorem dX12_giveUp_25 : decode cX12_giveUp 25 = .ok (.iload_n 2, 1) := by decide +kernel
theorem dX12_giveUp_26 : decode cX12_giveUp 26 = .ok (.invokestatic 136, 3) := by decide +kernel
theorem dX12_giveUp_29 : decode cX12_giveUp 29 = .ok (.isub, 1) := by decide +kernel
theorem dX12_giveUp_30 : decode cX12_giveUp 30 = .ok (.istore_n 3, 1) := by decide +kernel
theorem dX12_giveUp_31 : decode cX12_giveUp 31 = .ok (.iload_n 3, 1) := by decide +kernel
theorem dX12_giveUp_32 : decode cX12_giveUp 32 = .ok (.ifCond .gt 12, 3) := by decide +kernel
theorem dX12_giveUp_35 : decode cX12_giveUp 35 = .ok (.iload_n 3, 1) := by decide +kernel
theorem dX12_giveUp_36 : decode cX12_giveUp 36 = .ok (.ifCond .ne 18, 3) := by decide +kernel
theorem dX12_giveUp_39 : decode cX12_giveUp 39 = .ok (.iload_n 2, 1) := by decide +kernel
theorem dX12_giveUp_40 : decode cX12_giveUp 40 = .ok (.iload_n 1, 1) := by decide +kernel
theorem dX12_giveUp_41 : decode cX12_giveUp 41 = .ok (.if_icmp .ge 13, 3) := by decide +kernel
theorem dX12_giveUp_44 : decode cX12_giveUp 44 = .ok (.aload_n 0, 1) := by decide +kernel
theorem dX12_giveUp_45 : decode cX12_giveUp 45 = .ok (.iload_n 2, 1) := by decide +kernel
theorem dX12_giveUp_46 : decode cX12_giveUp 46 = .ok (.invokevirtual 174, 3) := by decide +kernel
theorem dX12_giveUp_49 : decode cX12_giveUp 49 = .ok (.ifCond .eq 5, 3) := by decide +kernel
theorem dX12_giveUp_52 : decode cX12_giveUp 52 = .ok (.iload_n 2, 1) := by decide +kernel
theorem dX12_giveUp_53 : decode cX12_giveUp 53 = .ok (.istore_n 1, 1) := by decide +kernel
theorem dX12_giveUp_54 : decode cX12_giveUp 54 = .ok (.iinc 2 1, 3) := by decide +kernel
theorem dX12_giveUp_57 : decode cX12_giveUp 57 = .ok (.goto (-46), 3) := by decide +kernel
theorem dX12_giveUp_60 : decode cX12_giveUp 60 = .ok (.iload_n 1, 1) := by decide +kernel
theorem dX12_giveUp_61 : decode cX12_giveUp 61 = .ok (.ireturn, 1) := by decide +kernel
theorem dX12_harmBy_0 : decode cX12_harmBy 0 = .ok (.aload_n 0, 1) := by decide +kernel
theorem dX12_harmBy_1 : decode cX12_harmBy 1 = .ok (.iload_n 1, 1) := by decide +kernel
theorem dX12_harmBy_2 : decode cX12_harmBy 2 = .ok (.putfield 89, 3) := by decide +kernel
theorem dX12_harmBy_5 : decode cX12_harmBy 5 = .ok (.iconst 0, 1) := by decide +kernel
theorem dX12_harmBy_6 : decode cX12_harmBy 6 = .ok (.istore_n 2, 1) := by decide +kernel
theorem dX12_harmBy_7 : decode cX12_harmBy 7 = .ok (.iconst 0, 1) := by decide +kernel
theorem dX12_harmBy_8 : decode cX12_harmBy 8 = .ok (.istore_n 3, 1) := by decide +kernel
theorem dX12_harmBy_9 : decode cX12_harmBy 9 = .ok (.iload_n 3, 1) := by decide +kernel
theorem dX12_harmBy_10 : decode cX12_harmBy 10 = .ok (.aload_n 0, 1) := by decide +kernel
theorem dX12_harmBy_11 : decode cX12_harmBy 11 = .ok (.invokevirtual 133, 3) := by decide +kernel
theorem dX12_harmBy_14 : decode cX12_harmBy 14 = .ok (.if_icmp .ge 22, 3) := by decide +kernel
theorem dX12_harmBy_17 : decode cX12_harmBy 17 = .ok (.iload_n 2, 1) := by decide +kernel
theorem dX12_harmBy_18 : decode cX12_harmBy 18 = .ok (.aload_n 0, 1) := by decide +kernel
theorem dX12_harmBy_19 : decode cX12_harmBy 19 = .ok (.aload_n 0, 1) := by decide +kernel
theorem dX12_harmBy_20 : decode cX12_harmBy 20 = .ok (.iload_n 3, 1) := by decide +kernel
theorem dX12_harmBy_21 : decode cX12_harmBy 21 = .ok (.iconst 0, 1) := by decide +kernel
theorem dX12_harmBy_22 : decode cX12_harmBy 22 = .ok (.invokevirtual 139, 3) := by decide +kernel
theorem dX12_harmBy_25 : decode cX12_harmBy 25 = .ok (.invokevirtual 142, 3) := by decide +kernel
theorem dX12_harmBy_28 : decode cX12_harmBy 28 = .ok (.iadd, 1) := by decide +kernel
theorem dX12_harmBy_29 : decode cX12_harmBy 29 = .ok (.istore_n 2, 1) := by decide +kernel
theorem dX12_harmBy_30 : decode cX12_harmBy 30 = .ok (.iinc 3 1, 3) := by decide +kernel
theorem dX12_harmBy_33 : decode cX12_harmBy 33 = .ok (.goto (-24), 3) := by decide +kernel
theorem dX12_harmBy_36 : decode cX12_harmBy 36 = .ok (.iload_n 2, 1) := by decide +kernel
theorem dX12_harmBy_37 : decode cX12_harmBy 37 = .ok (.ireturn, 1) := by decide +kernel
theorem dX12_factorial_0 : decode cX12_factorial 0 = .ok (.iconst 1, 1) := by decide +kernel
theorem dX12_factorial_1 : decode cX12_factorial 1 = .ok (.istore_n 1, 1) := by decide +kernel
theorem dX12_factorial_2 : decode cX12_factorial 2 = .ok (.iconst 2, 1) := by decide +kernel
theorem dX12_factorial_3 : decode cX12_factorial 3 = .ok (.istore_n 2, 1) := by decide +kernel
theorem dX12_factorial_4 : decode cX12_factorial 4 = .ok (.iload_n 2, 1) := by decide +kernel
theorem dX12_factorial_5 : decode cX12_factorial 5 = .ok (.iload_n 0, 1) := by decide +kernel
theorem dX12_factorial_6 : decode cX12_factorial 6 = .ok (.if_icmp .gt 13, 3) := by decide +kernel
theorem dX12_factorial_9 : decode cX12_factorial 9 = .ok (.iload_n 1, 1) := by decide +kernel
theorem dX12_factorial_10 : decode cX12_factorial 10 = .ok (.iload_n 2, 1) := by decide +kernel
theorem dX12_factorial_11 : decode cX12_factorial 11 = .ok (.imul, 1) := by decide +kernel
theorem dX12_factorial_12 : decode cX12_factorial 12 = .ok (.istore_n 1, 1) := by decide +kernel
theorem dX12_factorial_13 : decode cX12_factorial 13 = .ok (.iinc 2 1, 3) := by decide +kernel
theorem dX12_factorial_16 : decode cX12_factorial 16 = .ok (.goto (-12), 3) := by decide +kernel
theorem dX12_factorial_19 : decode cX12_factorial 19 = .ok (.iload_n 1, 1) := by decide +kernel
theorem dX12_factorial_20 : decode cX12_factorial 20 = .ok (.ireturn, 1) := by decide +kernel
theorem dX12_share_0 : decode cX12_share 0 = .ok (.aload_n 0, 1) := by decide +kernel
theorem dX12_share_1 : decode cX12_share 1 = .ok (.iload_n 1, 1) := by decide +kernel
theorem dX12_share_2 : decode cX12_share 2 = .ok (.invokevirtual 71, 3) := by decide +kernel
theorem dX12_share_5 : decode cX12_share 5 = .ok (.ifCond .ne 10, 3) := by decide +kernel
theorem dX12_share_8 : decode cX12_share 8 = .ok (.aload_n 0, 1) := by decide +kernel
theorem dX12_share_9 : decode cX12_share 9 = .ok (.bipush (-2), 2) := by decide +kernel
theorem dX12_share_11 : decode cX12_share 11 = .ok (.invokevirtual 60, 3) := by decide +kernel
theorem dX12_share_14 : decode cX12_share 14 = .ok (.ireturn, 1) := by decide +kernel
theorem dX12_share_15 : decode cX12_share 15 = .ok (.aload_n 0, 1) := by decide +kernel
theorem dX12_share_16 : decode cX12_share 16 = .ok (.invokevirtual 123, 3) := by decide +kernel
theorem dX12_share_19 : decode cX12_share 19 = .ok (.iconst 1, 1) := by decide +kernel
theorem dX12_share_20 : decode cX12_share 20 = .ok (.iload_n 1, 1) := by decide +kernel
theorem dX12_share_21 : decode cX12_share 21 = .ok (.ishl, 1) := by decide +kernel
theorem dX12_share_22 : decode cX12_share 22 = .ok (.istore_n 2, 1) := by decide +kernel
theorem dX12_share_23 : decode cX12_share 23 = .ok (.lconst 0, 1) := by decide +kernel
theorem dX12_share_24 : decode cX12_share 24 = .ok (.lstore_n 3, 1) := by decide +kernel
theorem dX12_share_25 : decode cX12_share 25 = .ok (.iconst 0, 1) := by decide +kernel
theorem dX12_share_26 : decode cX12_share 26 = .ok (.istore 5, 2) := by decide +kernel
theorem dX12_share_28 : decode cX12_share 28 = .ok (.iload 5, 2) := by decide +kernel
theorem dX12_share_30 : decode cX12_share 30 = .ok (.aload_n 0, 1) := by decide +kernel
theorem dX12_share_31 : decode cX12_share 31 = .ok (.invokevirtual 155, 3) := by decide +kernel
theorem dX12_share_34 : decode cX12_share 34 = .ok (.if_icmp .gt 67, 3) := by decide +kernel
theorem dX12_share_37 : decode cX12_share 37 = .ok (.iload 5, 2) := by decide +kernel
theorem dX12_share_39 : decode cX12_share 39 = .ok (.iload_n 2, 1) := by decide +kernel
theorem dX12_share_40 : decode cX12_share 40 = .ok (.iand, 1) := by decide +kernel
theorem dX12_share_41 : decode cX12_share 41 = .ok (.ifCond .ne 54, 3) := by decide +kernel
theorem dX12_share_44 : decode cX12_share 44 = .ok (.iload 5, 2) := by decide +kernel
theorem dX12_share_46 : decode cX12_share 46 = .ok (.invokestatic 136, 3) := by decide +kernel
theorem dX12_share_49 : decode cX12_share 49 = .ok (.istore 6, 2) := by decide +kernel
theorem dX12_share_51 : decode cX12_share 51 = .ok (.iload 6, 2) := by decide +kernel
theorem dX12_share_53 : decode cX12_share 53 = .ok (.invokestatic 177, 3) := by decide +kernel
theorem dX12_share_56 : decode cX12_share 56 = .ok (.i2l, 1) := by decide +kernel
theorem dX12_share_57 : decode cX12_share 57 = .ok (.aload_n 0, 1) := by decide +kernel
theorem dX12_share_58 : decode cX12_share 58 = .ok (.invokevirtual 48, 3) := by decide +kernel
theorem dX12_share_61 : decode cX12_share 61 = .ok (.iconst 1, 1) := by decide +kernel
theorem dX12_share_62 : decode cX12_share 62 = .ok (.isub, 1) := by decide +kernel
theorem dX12_share_63 : decode cX12_share 63 = .ok (.iload 6, 2) := by decide +kernel
theorem dX12_share_65 : decode cX12_share 65 = .ok (.isub, 1) := by decide +kernel
theorem dX12_share_66 : decode cX12_share 66 = .ok (.invokestatic 177, 3) := by decide +kernel
theorem dX12_share_69 : decode cX12_share 69 = .ok (.i2l, 1) := by decide +kernel
theorem dX12_share_70 : decode cX12_share 70 = .ok (.lmul, 1) := by decide +kernel
theorem dX12_share_71 : decode cX12_share 71 = .ok (.lstore 7, 2) := by decide +kernel
theorem dX12_share_73 : decode cX12_share 73 = .ok (.lload_n 3, 1) := by decide +kernel
theorem dX12_share_74 : decode cX12_share 74 = .ok (.lload 7, 2) := by decide +kernel
theorem dX12_share_76 : decode cX12_share 76 = .ok (.aload_n 0, 1) := by decide +kernel
theorem dX12_share_77 : decode cX12_share 77 = .ok (.iload 5, 2) := by decide +kernel
theorem dX12_share_79 : decode cX12_share 79 = .ok (.iload_n 2, 1) := by decide +kernel
theorem dX12_share_80 : decode cX12_share 80 = .ok (.ior, 1) := by decide +kernel
theorem dX12_share_81 : decode cX12_share 81 = .ok (.invokevirtual 180, 3) := by decide +kernel
theorem dX12_share_84 : decode cX12_share 84 = .ok (.aload_n 0, 1) := by decide +kernel
theorem dX12_share_85 : decode cX12_share 85 = .ok (.iload 5, 2) := by decide +kernel
theorem dX12_share_87 : decode cX12_share 87 = .ok (.invokevirtual 180, 3) := by decide +kernel
theorem dX12_share_90 : decode cX12_share 90 = .ok (.isub, 1) := by decide +kernel
theorem dX12_share_91 : decode cX12_share 91 = .ok (.i2l, 1) := by decide +kernel
theorem dX12_share_92 : decode cX12_share 92 = .ok (.lmul, 1) := by decide +kernel
theorem dX12_share_93 : decode cX12_share 93 = .ok (.ladd, 1) := by decide +kernel
theorem dX12_share_94 : decode cX12_share 94 = .ok (.lstore_n 3, 1) := by decide +kernel
theorem dX12_share_95 : decode cX12_share 95 = .ok (.iinc 5 1, 3) := by decide +kernel
theorem dX12_share_98 : decode cX12_share 98 = .ok (.goto (-70), 3) := by decide +kernel
theorem dX12_share_101 : decode cX12_share 101 = .ok (.lload_n 3, 1) := by decide +kernel
theorem dX12_share_102 : decode cX12_share 102 = .ok (.lconst 0, 1) := by decide +kernel
theorem dX12_share_103 : decode cX12_share 103 = .ok (.lcmp, 1) := by decide +kernel
theorem dX12_share_104 : decode cX12_share 104 = .ok (.ifCond .ge 8, 3) := by decide +kernel
theorem dX12_share_107 : decode cX12_share 107 = .ok (.lload_n 3, 1) := by decide +kernel
theorem dX12_share_108 : decode cX12_share 108 = .ok (.lneg, 1) := by decide +kernel
theorem dX12_share_109 : decode cX12_share 109 = .ok (.goto 4, 3) := by decide +kernel
theorem dX12_share_112 : decode cX12_share 112 = .ok (.lload_n 3, 1) := by decide +kernel
theorem dX12_share_113 : decode cX12_share 113 = .ok (.lstore 5, 2) := by decide +kernel
theorem dX12_share_115 : decode cX12_share 115 = .ok (.aload_n 0, 1) := by decide +kernel
theorem dX12_share_116 : decode cX12_share 116 = .ok (.invokevirtual 48, 3) := by decide +kernel
theorem dX12_share_119 : decode cX12_share 119 = .ok (.invokestatic 177, 3) := by decide +kernel
theorem dX12_share_122 : decode cX12_share 122 = .ok (.i2l, 1) := by decide +kernel
theorem dX12_share_123 : decode cX12_share 123 = .ok (.lstore 7, 2) := by decide +kernel
theorem dX12_share_125 : decode cX12_share 125 = .ok (.lload 7, 2) := by decide +kernel
theorem dX12_share_127 : decode cX12_share 127 = .ok (.lconst 0, 1) := by decide +kernel
theorem dX12_share_128 : decode cX12_share 128 = .ok (.lcmp, 1) := by decide +kernel
theorem dX12_share_129 : decode cX12_share 129 = .ok (.ifCond .eq 21, 3) := by decide +kernel
theorem dX12_share_132 : decode cX12_share 132 = .ok (.lload 5, 2) := by decide +kernel
theorem dX12_share_134 : decode cX12_share 134 = .ok (.lload 7, 2) := by decide +kernel
theorem dX12_share_136 : decode cX12_share 136 = .ok (.lrem, 1) := by decide +kernel
theorem dX12_share_137 : decode cX12_share 137 = .ok (.lstore 9, 2) := by decide +kernel
theorem dX12_share_139 : decode cX12_share 139 = .ok (.lload 7, 2) := by decide +kernel
theorem dX12_share_141 : decode cX12_share 141 = .ok (.lstore 5, 2) := by decide +kernel
theorem dX12_share_143 : decode cX12_share 143 = .ok (.lload 9, 2) := by decide +kernel
theorem dX12_share_145 : decode cX12_share 145 = .ok (.lstore 7, 2) := by decide +kernel
theorem dX12_share_147 : decode cX12_share 147 = .ok (.goto (-22), 3) := by decide +kernel
theorem dX12_share_150 : decode cX12_share 150 = .ok (.aload_n 0, 1) := by decide +kernel
theorem dX12_share_151 : decode cX12_share 151 = .ok (.lload_n 3, 1) := by decide +kernel
theorem dX12_share_152 : decode cX12_share 152 = .ok (.lload 5, 2) := by decide +kernel
theorem dX12_share_154 : decode cX12_share 154 = .ok (.ldiv, 1) := by decide +kernel
theorem dX12_share_155 : decode cX12_share 155 = .ok (.putfield 183, 3) := by decide +kernel
theorem dX12_share_158 : decode cX12_share 158 = .ok (.aload_n 0, 1) := by decide +kernel
theorem dX12_share_159 : decode cX12_share 159 = .ok (.aload_n 0, 1) := by decide +kernel
theorem dX12_share_160 : decode cX12_share 160 = .ok (.invokevirtual 48, 3) := by decide +kernel
theorem dX12_share_163 : decode cX12_share 163 = .ok (.invokestatic 177, 3) := by decide +kernel
theorem dX12_share_166 : decode cX12_share 166 = .ok (.i2l, 1) := by decide +kernel
theorem dX12_share_167 : decode cX12_share 167 = .ok (.lload 5, 2) := by decide +kernel
theorem dX12_share_169 : decode cX12_share 169 = .ok (.ldiv, 1) := by decide +kernel
theorem dX12_share_170 : decode cX12_share 170 = .ok (.putfield 23, 3) := by decide +kernel
theorem dX12_share_173 : decode cX12_share 173 = .ok (.iconst 1, 1) := by decide +kernel
theorem dX12_share_174 : decode cX12_share 174 = .ok (.ireturn, 1) := by decide +kernel
theorem dX12_type_0 : decode cX12_type 0 = .ok (.iload_n 3, 1) := by decide +kernel
theorem dX12_type_1 : decode cX12_type 1 = .ok (.i2l, 1) := by decide +kernel
theorem dX12_type_2 : decode cX12_type 2 = .ok (.lconst 1, 1) := by decide +kernel
theorem dX12_type_3 : decode cX12_type 3 = .ok (.ldc2_w 186, 3) := by decide +kernel
theorem dX12_type_6 : decode cX12_type 6 = .ok (.invokestatic 52, 3) := by decide +kernel
theorem dX12_type_9 : decode cX12_type 9 = .ok (.ifCond .ne 10, 3) := by decide +kernel
theorem dX12_type_12 : decode cX12_type 12 = .ok (.aload_n 0, 1) := by decide +kernel
theorem dX12_type_13 : decode cX12_type 13 = .ok (.bipush (-2), 2) := by decide +kernel
theorem dX12_type_15 : decode cX12_type 15 = .ok (.invokevirtual 60, 3) := by decide +kernel
theorem dX12_type_18 : decode cX12_type 18 = .ok (.ireturn, 1) := by decide +kernel
theorem dX12_type_19 : decode cX12_type 19 = .ok (.aload_n 0, 1) := by decide +kernel
theorem dX12_type_20 : decode cX12_type 20 = .ok (.getfield 188, 3) := by decide +kernel
theorem dX12_type_23 : decode cX12_type 23 = .ok (.iload_n 3, 1) := by decide +kernel
theorem dX12_type_24 : decode cX12_type 24 = .ok (.iadd, 1) := by decide +kernel
theorem dX12_type_25 : decode cX12_type 25 = .ok (.sipush 200, 3) := by decide +kernel
theorem dX12_type_28 : decode cX12_type 28 = .ok (.if_icmp .le 8, 3) := by decide +kernel
theorem dX12_type_31 : decode cX12_type 31 = .ok (.aload_n 0, 1) := by decide +kernel
theorem dX12_type_32 : decode cX12_type 32 = .ok (.invokevirtual 64, 3) := by decide +kernel
theorem dX12_type_35 : decode cX12_type 35 = .ok (.ireturn, 1) := by decide +kernel
theorem dX12_type_36 : decode cX12_type 36 = .ok (.iload_n 3, 1) := by decide +kernel
theorem dX12_type_37 : decode cX12_type 37 = .ok (.iconst 1, 1) := by decide +kernel
theorem dX12_type_38 : decode cX12_type 38 = .ok (.isub, 1) := by decide +kernel
theorem dX12_type_39 : decode cX12_type 39 = .ok (.istore 4, 2) := by decide +kernel
theorem dX12_type_41 : decode cX12_type 41 = .ok (.iload 4, 2) := by decide +kernel
theorem dX12_type_43 : decode cX12_type 43 = .ok (.ifCond .lt 40, 3) := by decide +kernel
theorem dX12_type_46 : decode cX12_type 46 = .ok (.aload_n 0, 1) := by decide +kernel
theorem dX12_type_47 : decode cX12_type 47 = .ok (.getfield 39, 3) := by decide +kernel
theorem dX12_type_50 : decode cX12_type 50 = .ok (.aload_n 0, 1) := by decide +kernel
theorem dX12_type_51 : decode cX12_type 51 = .ok (.getfield 188, 3) := by decide +kernel
theorem dX12_type_54 : decode cX12_type 54 = .ok (.lload_n 1, 1) := by decide +kernel
theorem dX12_type_55 : decode cX12_type 55 = .ok (.bipush 8, 2) := by decide +kernel
theorem dX12_type_57 : decode cX12_type 57 = .ok (.iload 4, 2) := by decide +kernel
theorem dX12_type_59 : decode cX12_type 59 = .ok (.imul, 1) := by decide +kernel
theorem dX12_type_60 : decode cX12_type 60 = .ok (.lushr, 1) := by decide +kernel
theorem dX12_type_61 : decode cX12_type 61 = .ok (.ldc2_w 191, 3) := by decide +kernel
theorem dX12_type_64 : decode cX12_type 64 = .ok (.land, 1) := by decide +kernel
theorem dX12_type_65 : decode cX12_type 65 = .ok (.l2i, 1) := by decide +kernel
theorem dX12_type_66 : decode cX12_type 66 = .ok (.iastore, 1) := by decide +kernel
theorem dX12_type_67 : decode cX12_type 67 = .ok (.aload_n 0, 1) := by decide +kernel
theorem dX12_type_68 : decode cX12_type 68 = .ok (.dup, 1) := by decide +kernel
theorem dX12_type_69 : decode cX12_type 69 = .ok (.getfield 188, 3) := by decide +kernel
theorem dX12_type_72 : decode cX12_type 72 = .ok (.iconst 1, 1) := by decide +kernel
theorem dX12_type_73 : decode cX12_type 73 = .ok (.iadd, 1) := by decide +kernel
theorem dX12_type_74 : decode cX12_type 74 = .ok (.putfield 188, 3) := by decide +kernel
theorem dX12_type_77 : decode cX12_type 77 = .ok (.iinc 4 (-1), 3) := by decide +kernel
theorem dX12_type_80 : decode cX12_type 80 = .ok (.goto (-39), 3) := by decide +kernel
theorem dX12_type_83 : decode cX12_type 83 = .ok (.aload_n 0, 1) := by decide +kernel
theorem dX12_type_84 : decode cX12_type 84 = .ok (.getfield 188, 3) := by decide +kernel
theorem dX12_type_87 : decode cX12_type 87 = .ok (.ireturn, 1) := by decide +kernel
theorem dX12_clear_0 : decode cX12_clear 0 = .ok (.aload_n 0, 1) := by decide +kernel
theorem dX12_clear_1 : decode cX12_clear 1 = .ok (.getfield 188, 3) := by decide +kernel
theorem dX12_clear_4 : decode cX12_clear 4 = .ok (.istore_n 1, 1) := by decide +kernel
theorem dX12_clear_5 : decode cX12_clear 5 = .ok (.aload_n 0, 1) := by decide +kernel
theorem dX12_clear_6 : decode cX12_clear 6 = .ok (.iconst 0, 1) := by decide +kernel
theorem dX12_clear_7 : decode cX12_clear 7 = .ok (.putfield 188, 3) := by decide +kernel
theorem dX12_clear_10 : decode cX12_clear 10 = .ok (.iload_n 1, 1) := by decide +kernel
theorem dX12_clear_11 : decode cX12_clear 11 = .ok (.ireturn, 1) := by decide +kernel
theorem dX12_isSmall_0 : decode cX12_isSmall 0 = .ok (.iload_n 0, 1) := by decide +kernel
theorem dX12_isSmall_1 : decode cX12_isSmall 1 = .ok (.i2l, 1) := by decide +kernel
theorem dX12_isSmall_2 : decode cX12_isSmall 2 = .ok (.ldc2_w 193, 3) := by decide +kernel
theorem dX12_isSmall_5 : decode cX12_isSmall 5 = .ok (.ldc2_w 195, 3) := by decide +kernel
theorem dX12_isSmall_8 : decode cX12_isSmall 8 = .ok (.invokestatic 52, 3) := by decide +kernel
theorem dX12_isSmall_11 : decode cX12_isSmall 11 = .ok (.ireturn, 1) := by decide +kernel
theorem dX12_isFigure_0 : decode cX12_isFigure 0 = .ok (.iload_n 0, 1) := by decide +kernel
theorem dX12_isFigure_1 : decode cX12_isFigure 1 = .ok (.i2l, 1) := by decide +kernel
theorem dX12_isFigure_2 : decode cX12_isFigure 2 = .ok (.ldc2_w 197, 3) := by decide +kernel
theorem dX12_isFigure_5 : decode cX12_isFigure 5 = .ok (.ldc2_w 199, 3) := by decide +kernel
theorem dX12_isFigure_8 : decode cX12_isFigure 8 = .ok (.invokestatic 52, 3) := by decide +kernel
theorem dX12_isFigure_11 : decode cX12_isFigure 11 = .ok (.ireturn, 1) := by decide +kernel
theorem dX12_look_0 : decode cX12_look 0 = .ok (.aload_n 0, 1) := by decide +kernel
theorem dX12_look_1 : decode cX12_look 1 = .ok (.iload_n 1, 1) := by decide +kernel
theorem dX12_look_2 : decode cX12_look 2 = .ok (.putfield 201, 3) := by decide +kernel
theorem dX12_look_5 : decode cX12_look 5 = .ok (.aload_n 0, 1) := by decide +kernel
theorem dX12_look_6 : decode cX12_look 6 = .ok (.getfield 201, 3) := by decide +kernel
theorem dX12_look_9 : decode cX12_look 9 = .ok (.aload_n 0, 1) := by decide +kernel
theorem dX12_look_10 : decode cX12_look 10 = .ok (.getfield 188, 3) := by decide +kernel
theorem dX12_look_13 : decode cX12_look 13 = .ok (.if_icmp .ge 30, 3) := by decide +kernel
theorem dX12_look_16 : decode cX12_look 16 = .ok (.aload_n 0, 1) := by decide +kernel
theorem dX12_look_17 : decode cX12_look 17 = .ok (.getfield 39, 3) := by decide +kernel
theorem dX12_look_20 : decode cX12_look 20 = .ok (.aload_n 0, 1) := by decide +kernel
theorem dX12_look_21 : decode cX12_look 21 = .ok (.getfield 201, 3) := by decide +kernel
theorem dX12_look_24 : decode cX12_look 24 = .ok (.iaload, 1) := by decide +kernel
theorem dX12_look_25 : decode cX12_look 25 = .ok (.bipush 32, 2) := by decide +kernel
theorem dX12_look_27 : decode cX12_look 27 = .ok (.if_icmp .ne 16, 3) := by decide +kernel
theorem dX12_look_30 : decode cX12_look 30 = .ok (.aload_n 0, 1) := by decide +kernel
theorem dX12_look_31 : decode cX12_look 31 = .ok (.dup, 1) := by decide +kernel
theorem dX12_look_32 : decode cX12_look 32 = .ok (.getfield 201, 3) := by decide +kernel
theorem dX12_look_35 : decode cX12_look 35 = .ok (.iconst 1, 1) := by decide +kernel
theorem dX12_look_36 : decode cX12_look 36 = .ok (.iadd, 1) := by decide +kernel
theorem dX12_look_37 : decode cX12_look 37 = .ok (.putfield 201, 3) := by decide +kernel
theorem dX12_look_40 : decode cX12_look 40 = .ok (.goto (-35), 3) := by decide +kernel
theorem dX12_look_43 : decode cX12_look 43 = .ok (.aload_n 0, 1) := by decide +kernel
theorem dX12_look_44 : decode cX12_look 44 = .ok (.iconst 0, 1) := by decide +kernel
theorem dX12_look_45 : decode cX12_look 45 = .ok (.putfield 204, 3) := by decide +kernel
theorem dX12_look_48 : decode cX12_look 48 = .ok (.aload_n 0, 1) := by decide +kernel
theorem dX12_look_49 : decode cX12_look 49 = .ok (.iconst 0, 1) := by decide +kernel
theorem dX12_look_50 : decode cX12_look 50 = .ok (.putfield 207, 3) := by decide +kernel
theorem dX12_look_53 : decode cX12_look 53 = .ok (.aload_n 0, 1) := by decide +kernel
theorem dX12_look_54 : decode cX12_look 54 = .ok (.iconst 0, 1) := by decide +kernel
theorem dX12_look_55 : decode cX12_look 55 = .ok (.putfield 210, 3) := by decide +kernel
theorem dX12_look_58 : decode cX12_look 58 = .ok (.aload_n 0, 1) := by decide +kernel
theorem dX12_look_59 : decode cX12_look 59 = .ok (.getfield 201, 3) := by decide +kernel
theorem dX12_look_62 : decode cX12_look 62 = .ok (.aload_n 0, 1) := by decide +kernel
theorem dX12_look_63 : decode cX12_look 63 = .ok (.getfield 188, 3) := by decide +kernel
theorem dX12_look_66 : decode cX12_look 66 = .ok (.if_icmp .ne 4, 3) := by decide +kernel
theorem dX12_look_69 : decode cX12_look 69 = .ok (.return_, 1) := by decide +kernel
theorem dX12_look_70 : decode cX12_look 70 = .ok (.aload_n 0, 1) := by decide +kernel
theorem dX12_look_71 : decode cX12_look 71 = .ok (.getfield 39, 3) := by decide +kernel
theorem dX12_look_74 : decode cX12_look 74 = .ok (.aload_n 0, 1) := by decide +kernel
theorem dX12_look_75 : decode cX12_look 75 = .ok (.getfield 201, 3) := by decide +kernel
theorem dX12_look_78 : decode cX12_look 78 = .ok (.iaload, 1) := by decide +kernel
theorem dX12_look_79 : decode cX12_look 79 = .ok (.istore_n 2, 1) := by decide +kernel
theorem dX12_look_80 : decode cX12_look 80 = .ok (.aload_n 0, 1) := by decide +kernel
theorem dX12_look_81 : decode cX12_look 81 = .ok (.iload_n 2, 1) := by decide +kernel
theorem dX12_look_82 : decode cX12_look 82 = .ok (.invokestatic 213, 3) := by decide +kernel
theorem dX12_look_85 : decode cX12_look 85 = .ok (.ifCond .eq 7, 3) := by decide +kernel
theorem dX12_look_88 : decode cX12_look 88 = .ok (.iconst 1, 1) := by decide +kernel
theorem dX12_look_89 : decode cX12_look 89 = .ok (.goto 25, 3) := by decide +kernel
theorem dX12_look_92 : decode cX12_look 92 = .ok (.iload_n 2, 1) := by decide +kernel
theorem dX12_look_93 : decode cX12_look 93 = .ok (.invokestatic 216, 3) := by decide +kernel
theorem dX12_look_96 : decode cX12_look 96 = .ok (.ifCond .eq 7, 3) := by decide +kernel
theorem dX12_look_99 : decode cX12_look 99 = .ok (.iconst 2, 1) := by decide +kernel
theorem dX12_look_100 : decode cX12_look 100 = .ok (.goto 14, 3) := by decide +kernel
theorem dX12_look_103 : decode cX12_look 103 = .ok (.iload_n 2, 1) := by decide +kernel
theorem dX12_look_104 : decode cX12_look 104 = .ok (.bipush 59, 2) := by decide +kernel
theorem dX12_look_106 : decode cX12_look 106 = .ok (.if_icmp .ne 7, 3) := by decide +kernel
theorem dX12_look_109 : decode cX12_look 109 = .ok (.iconst 3, 1) := by decide +kernel
theorem dX12_look_110 : decode cX12_look 110 = .ok (.goto 4, 3) := by decide +kernel
theorem dX12_look_113 : decode cX12_look 113 = .ok (.iconst 4, 1) := by decide +kernel
theorem dX12_look_114 : decode cX12_look 114 = .ok (.putfield 207, 3) := by decide +kernel
theorem dX12_look_117 : decode cX12_look 117 = .ok (.aload_n 0, 1) := by decide +kernel
theorem dX12_look_118 : decode cX12_look 118 = .ok (.iconst 1, 1) := by decide +kernel
theorem dX12_look_119 : decode cX12_look 119 = .ok (.putfield 204, 3) := by decide +kernel
theorem dX12_look_122 : decode cX12_look 122 = .ok (.aload_n 0, 1) := by decide +kernel
theorem dX12_look_123 : decode cX12_look 123 = .ok (.getfield 207, 3) := by decide +kernel
theorem dX12_look_126 : decode cX12_look 126 = .ok (.iconst 3, 1) := by decide +kernel
theorem dX12_look_127 : decode cX12_look 127 = .ok (.if_icmp .ge 7, 3) := by decide +kernel
theorem dX12_look_130 : decode cX12_look 130 = .ok (.iconst 1, 1) := by decide +kernel
theorem dX12_look_131 : decode cX12_look 131 = .ok (.goto 4, 3) := by decide +kernel
theorem dX12_look_134 : decode cX12_look 134 = .ok (.iconst 0, 1) := by decide +kernel
theorem dX12_look_135 : decode cX12_look 135 = .ok (.istore_n 3, 1) := by decide +kernel
theorem dX12_look_136 : decode cX12_look 136 = .ok (.iload_n 3, 1) := by decide +kernel
theorem dX12_look_137 : decode cX12_look 137 = .ok (.ifCond .eq 78, 3) := by decide +kernel
theorem dX12_look_140 : decode cX12_look 140 = .ok (.aload_n 0, 1) := by decide +kernel
theorem dX12_look_141 : decode cX12_look 141 = .ok (.getfield 201, 3) := by decide +kernel
theorem dX12_look_144 : decode cX12_look 144 = .ok (.aload_n 0, 1) := by decide +kernel
theorem dX12_look_145 : decode cX12_look 145 = .ok (.getfield 204, 3) := by decide +kernel
theorem dX12_look_148 : decode cX12_look 148 = .ok (.iadd, 1) := by decide +kernel
theorem dX12_look_149 : decode cX12_look 149 = .ok (.aload_n 0, 1) := by decide +kernel
theorem dX12_look_150 : decode cX12_look 150 = .ok (.getfield 188, 3) := by decide +kernel
theorem dX12_look_153 : decode cX12_look 153 = .ok (.if_icmp .ge 62, 3) := by decide +kernel
theorem dX12_look_156 : decode cX12_look 156 = .ok (.aload_n 0, 1) := by decide +kernel
theorem dX12_look_157 : decode cX12_look 157 = .ok (.getfield 39, 3) := by decide +kernel
theorem dX12_look_160 : decode cX12_look 160 = .ok (.aload_n 0, 1) := by decide +kernel
theorem dX12_look_161 : decode cX12_look 161 = .ok (.getfield 201, 3) := by decide +kernel
theorem dX12_look_164 : decode cX12_look 164 = .ok (.aload_n 0, 1) := by decide +kernel
theorem dX12_look_165 : decode cX12_look 165 = .ok (.getfield 204, 3) := by decide +kernel
theorem dX12_look_168 : decode cX12_look 168 = .ok (.iadd, 1) := by decide +kernel
theorem dX12_look_169 : decode cX12_look 169 = .ok (.iaload, 1) := by decide +kernel
theorem dX12_look_170 : decode cX12_look 170 = .ok (.istore 4, 2) := by decide +kernel
theorem dX12_look_172 : decode cX12_look 172 = .ok (.aload_n 0, 1) := by decide +kernel
theorem dX12_look_173 : decode cX12_look 173 = .ok (.getfield 207, 3) := by decide +kernel
theorem dX12_look_176 : decode cX12_look 176 = .ok (.iconst 1, 1) := by decide +kernel
theorem dX12_look_177 : decode cX12_look 177 = .ok (.if_icmp .ne 11, 3) := by decide +kernel
theorem dX12_look_180 : decode cX12_look 180 = .ok (.iload 4, 2) := by decide +kernel
theorem dX12_look_182 : decode cX12_look 182 = .ok (.invokestatic 213, 3) := by decide +kernel
theorem dX12_look_185 : decode cX12_look 185 = .ok (.goto 8, 3) := by decide +kernel
theorem dX12_look_188 : decode cX12_look 188 = .ok (.iload 4, 2) := by decide +kernel
theorem dX12_look_190 : decode cX12_look 190 = .ok (.invokestatic 216, 3) := by decide +kernel
theorem dX12_look_193 : decode cX12_look 193 = .ok (.istore_n 3, 1) := by decide +kernel
theorem dX12_look_194 : decode cX12_look 194 = .ok (.aload_n 0, 1) := by decide +kernel
theorem dX12_look_195 : decode cX12_look 195 = .ok (.dup, 1) := by decide +kernel
theorem dX12_look_196 : decode cX12_look 196 = .ok (.getfield 204, 3) := by decide +kernel
theorem dX12_look_199 : decode cX12_look 199 = .ok (.iload_n 3, 1) := by decide +kernel
theorem dX12_look_200 : decode cX12_look 200 = .ok (.ifCond .eq 7, 3) := by decide +kernel
theorem dX12_look_203 : decode cX12_look 203 = .ok (.iconst 1, 1) := by decide +kernel
theorem dX12_look_204 : decode cX12_look 204 = .ok (.goto 4, 3) := by decide +kernel
theorem dX12_look_207 : decode cX12_look 207 = .ok (.iconst 0, 1) := by decide +kernel
theorem dX12_look_208 : decode cX12_look 208 = .ok (.iadd, 1) := by decide +kernel
theorem dX12_look_209 : decode cX12_look 209 = .ok (.putfield 204, 3) := by decide +kernel
theorem dX12_look_212 : decode cX12_look 212 = .ok (.goto (-76), 3) := by decide +kernel
theorem dX12_look_215 : decode cX12_look 215 = .ok (.iconst 0, 1) := by decide +kernel
theorem dX12_look_216 : decode cX12_look 216 = .ok (.istore 4, 2) := by decide +kernel
theorem dX12_look_218 : decode cX12_look 218 = .ok (.iload 4, 2) := by decide +kernel
theorem dX12_look_220 : decode cX12_look 220 = .ok (.aload_n 0, 1) := by decide +kernel
theorem dX12_look_221 : decode cX12_look 221 = .ok (.getfield 204, 3) := by decide +kernel
theorem dX12_look_224 : decode cX12_look 224 = .ok (.if_icmp .ge 50, 3) := by decide +kernel
theorem dX12_look_227 : decode cX12_look 227 = .ok (.iload 4, 2) := by decide +kernel
theorem dX12_look_229 : decode cX12_look 229 = .ok (.iconst 2, 1) := by decide +kernel
theorem dX12_look_230 : decode cX12_look 230 = .ok (.if_icmp .ge 44, 3) := by decide +kernel
theorem dX12_look_233 : decode cX12_look 233 = .ok (.aload_n 0, 1) := by decide +kernel
theorem dX12_look_234 : decode cX12_look 234 = .ok (.getfield 207, 3) := by decide +kernel
theorem dX12_look_237 : decode cX12_look 237 = .ok (.iconst 2, 1) := by decide +kernel
theorem dX12_look_238 : decode cX12_look 238 = .ok (.if_icmp .ne 36, 3) := by decide +kernel
theorem dX12_look_241 : decode cX12_look 241 = .ok (.aload_n 0, 1) := by decide +kernel
theorem dX12_look_242 : decode cX12_look 242 = .ok (.bipush 10, 2) := by decide +kernel
theorem dX12_look_244 : decode cX12_look 244 = .ok (.aload_n 0, 1) := by decide +kernel
theorem dX12_look_245 : decode cX12_look 245 = .ok (.getfield 210, 3) := by decide +kernel
theorem dX12_look_248 : decode cX12_look 248 = .ok (.imul, 1) := by decide +kernel
theorem dX12_look_249 : decode cX12_look 249 = .ok (.aload_n 0, 1) := by decide +kernel
theorem dX12_look_250 : decode cX12_look 250 = .ok (.getfield 39, 3) := by decide +kernel
theorem dX12_look_253 : decode cX12_look 253 = .ok (.aload_n 0, 1) := by decide +kernel
theorem dX12_look_254 : decode cX12_look 254 = .ok (.getfield 201, 3) := by decide +kernel
theorem dX12_look_257 : decode cX12_look 257 = .ok (.iload 4, 2) := by decide +kernel
theorem dX12_look_259 : decode cX12_look 259 = .ok (.iadd, 1) := by decide +kernel
theorem dX12_look_260 : decode cX12_look 260 = .ok (.iaload, 1) := by decide +kernel
theorem dX12_look_261 : decode cX12_look 261 = .ok (.iadd, 1) := by decide +kernel
theorem dX12_look_262 : decode cX12_look 262 = .ok (.bipush 48, 2) := by decide +kernel
theorem dX12_look_264 : decode cX12_look 264 = .ok (.isub, 1) := by decide +kernel
theorem dX12_look_265 : decode cX12_look 265 = .ok (.putfield 210, 3) := by decide +kernel
theorem dX12_look_268 : decode cX12_look 268 = .ok (.iinc 4 1, 3) := by decide +kernel
theorem dX12_look_271 : decode cX12_look 271 = .ok (.goto (-53), 3) := by decide +kernel
theorem dX12_look_274 : decode cX12_look 274 = .ok (.aload_n 0, 1) := by decide +kernel
theorem dX12_look_275 : decode cX12_look 275 = .ok (.aload_n 0, 1) := by decide +kernel
theorem dX12_look_276 : decode cX12_look 276 = .ok (.getfield 207, 3) := by decide +kernel
theorem dX12_look_279 : decode cX12_look 279 = .ok (.iconst 2, 1) := by decide +kernel
theorem dX12_look_280 : decode cX12_look 280 = .ok (.if_icmp .ne 15, 3) := by decide +kernel
theorem dX12_look_283 : decode cX12_look 283 = .ok (.aload_n 0, 1) := by decide +kernel
theorem dX12_look_284 : decode cX12_look 284 = .ok (.getfield 204, 3) := by decide +kernel
theorem dX12_look_287 : decode cX12_look 287 = .ok (.iconst 2, 1) := by decide +kernel
theorem dX12_look_288 : decode cX12_look 288 = .ok (.if_icmp .le 7, 3) := by decide +kernel
theorem dX12_look_291 : decode cX12_look 291 = .ok (.iconst 4, 1) := by decide +kernel
theorem dX12_look_292 : decode cX12_look 292 = .ok (.goto 7, 3) := by decide +kernel
theorem dX12_look_295 : decode cX12_look 295 = .ok (.aload_n 0, 1) := by decide +kernel
theorem dX12_look_296 : decode cX12_look 296 = .ok (.getfield 207, 3) := by decide +kernel
theorem dX12_look_299 : decode cX12_look 299 = .ok (.putfield 207, 3) := by decide +kernel
theorem dX12_look_302 : decode cX12_look 302 = .ok (.return_, 1) := by decide +kernel
theorem dX12_goOn_0 : decode cX12_goOn 0 = .ok (.aload_n 0, 1) := by decide +kernel
theorem dX12_goOn_1 : decode cX12_goOn 1 = .ok (.aload_n 0, 1) := by decide +kernel
theorem dX12_goOn_2 : decode cX12_goOn 2 = .ok (.getfield 201, 3) := by decide +kernel
theorem dX12_goOn_5 : decode cX12_goOn 5 = .ok (.aload_n 0, 1) := by decide +kernel
theorem dX12_goOn_6 : decode cX12_goOn 6 = .ok (.getfield 204, 3) := by decide +kernel
theorem dX12_goOn_9 : decode cX12_goOn 9 = .ok (.iadd, 1) := by decide +kernel
theorem dX12_goOn_10 : decode cX12_goOn 10 = .ok (.invokevirtual 219, 3) := by decide +kernel
theorem dX12_goOn_13 : decode cX12_goOn 13 = .ok (.return_, 1) := by decide +kernel
theorem dX12_isWord_0 : decode cX12_isWord 0 = .ok (.iload 4, 2) := by decide +kernel
theorem dX12_isWord_2 : decode cX12_isWord 2 = .ok (.ifCond .ne 7, 3) := by decide +kernel
theorem dX12_isWord_5 : decode cX12_isWord 5 = .ok (.iconst 3, 1) := by decide +kernel
theorem dX12_isWord_6 : decode cX12_isWord 6 = .ok (.goto 23, 3) := by decide +kernel
theorem dX12_isWord_9 : decode cX12_isWord 9 = .ok (.iload 5, 2) := by decide +kernel
theorem dX12_isWord_11 : decode cX12_isWord 11 = .ok (.ifCond .ne 7, 3) := by decide +kernel
theorem dX12_isWord_14 : decode cX12_isWord 14 = .ok (.iconst 4, 1) := by decide +kernel
theorem dX12_isWord_15 : decode cX12_isWord 15 = .ok (.goto 14, 3) := by decide +kernel
theorem dX12_isWord_18 : decode cX12_isWord 18 = .ok (.iload 6, 2) := by decide +kernel
theorem dX12_isWord_20 : decode cX12_isWord 20 = .ok (.ifCond .ne 7, 3) := by decide +kernel
theorem dX12_isWord_23 : decode cX12_isWord 23 = .ok (.iconst 5, 1) := by decide +kernel
theorem dX12_isWord_24 : decode cX12_isWord 24 = .ok (.goto 5, 3) := by decide +kernel
theorem dX12_isWord_27 : decode cX12_isWord 27 = .ok (.bipush 6, 2) := by decide +kernel
theorem dX12_isWord_29 : decode cX12_isWord 29 = .ok (.istore 7, 2) := by decide +kernel
theorem dX12_isWord_31 : decode cX12_isWord 31 = .ok (.aload_n 0, 1) := by decide +kernel
theorem dX12_isWord_32 : decode cX12_isWord 32 = .ok (.getfield 207, 3) := by decide +kernel
theorem dX12_isWord_35 : decode cX12_isWord 35 = .ok (.iconst 1, 1) := by decide +kernel
theorem dX12_isWord_36 : decode cX12_isWord 36 = .ok (.if_icmp .ne 16, 3) := by decide +kernel
theorem dX12_isWord_39 : decode cX12_isWord 39 = .ok (.aload_n 0, 1) := by decide +kernel
theorem dX12_isWord_40 : decode cX12_isWord 40 = .ok (.getfield 204, 3) := by decide +kernel
theorem dX12_isWord_43 : decode cX12_isWord 43 = .ok (.iload 7, 2) := by decide +kernel
theorem dX12_isWord_45 : decode cX12_isWord 45 = .ok (.if_icmp .ne 7, 3) := by decide +kernel
theorem dX12_isWord_48 : decode cX12_isWord 48 = .ok (.iconst 1, 1) := by decide +kernel
theorem dX12_isWord_49 : decode cX12_isWord 49 = .ok (.goto 4, 3) := by decide +kernel
theorem dX12_isWord_52 : decode cX12_isWord 52 = .ok (.iconst 0, 1) := by decide +kernel
theorem dX12_isWord_53 : decode cX12_isWord 53 = .ok (.istore 8, 2) := by decide +kernel
theorem dX12_isWord_55 : decode cX12_isWord 55 = .ok (.iconst 0, 1) := by decide +kernel
theorem dX12_isWord_56 : decode cX12_isWord 56 = .ok (.istore 9, 2) := by decide +kernel
theorem dX12_isWord_58 : decode cX12_isWord 58 = .ok (.iload 9, 2) := by decide +kernel
theorem dX12_isWord_60 : decode cX12_isWord 60 = .ok (.iload 7, 2) := by decide +kernel
theorem dX12_isWord_62 : decode cX12_isWord 62 = .ok (.if_icmp .ge 89, 3) := by decide +kernel
theorem dX12_isWord_65 : decode cX12_isWord 65 = .ok (.iload 8, 2) := by decide +kernel
theorem dX12_isWord_67 : decode cX12_isWord 67 = .ok (.ifCond .eq 84, 3) := by decide +kernel
theorem dX12_isWord_70 : decode cX12_isWord 70 = .ok (.aload_n 0, 1) := by decide +kernel
theorem dX12_isWord_71 : decode cX12_isWord 71 = .ok (.getfield 39, 3) := by decide +kernel
theorem dX12_isWord_74 : decode cX12_isWord 74 = .ok (.aload_n 0, 1) := by decide +kernel
theorem dX12_isWord_75 : decode cX12_isWord 75 = .ok (.getfield 201, 3) := by decide +kernel
theorem dX12_isWord_78 : decode cX12_isWord 78 = .ok (.iload 9, 2) := by decide +kernel
theorem dX12_isWord_80 : decode cX12_isWord 80 = .ok (.iadd, 1) := by decide +kernel
theorem dX12_isWord_81 : decode cX12_isWord 81 = .ok (.iaload, 1) := by decide +kernel
theorem dX12_isWord_82 : decode cX12_isWord 82 = .ok (.iload 9, 2) := by decide +kernel
theorem dX12_isWord_84 : decode cX12_isWord 84 = .ok (.ifCond .ne 7, 3) := by decide +kernel
theorem dX12_isWord_87 : decode cX12_isWord 87 = .ok (.iload_n 1, 1) := by decide +kernel
theorem dX12_isWord_88 : decode cX12_isWord 88 = .ok (.goto 47, 3) := by decide +kernel
theorem dX12_isWord_91 : decode cX12_isWord 91 = .ok (.iload 9, 2) := by decide +kernel
theorem dX12_isWord_93 : decode cX12_isWord 93 = .ok (.iconst 1, 1) := by decide +kernel
theorem dX12_isWord_94 : decode cX12_isWord 94 = .ok (.if_icmp .ne 7, 3) := by decide +kernel
theorem dX12_isWord_97 : decode cX12_isWord 97 = .ok (.iload_n 2, 1) := by decide +kernel
theorem dX12_isWord_98 : decode cX12_isWord 98 = .ok (.goto 37, 3) := by decide +kernel
theorem dX12_isWord_101 : decode cX12_isWord 101 = .ok (.iload 9, 2) := by decide +kernel
theorem dX12_isWord_103 : decode cX12_isWord 103 = .ok (.iconst 2, 1) := by decide +kernel
theorem dX12_isWord_104 : decode cX12_isWord 104 = .ok (.if_icmp .ne 7, 3) := by decide +kernel
theorem dX12_isWord_107 : decode cX12_isWord 107 = .ok (.iload_n 3, 1) := by decide +kernel
theorem dX12_isWord_108 : decode cX12_isWord 108 = .ok (.goto 27, 3) := by decide +kernel
theorem dX12_isWord_111 : decode cX12_isWord 111 = .ok (.iload 9, 2) := by decide +kernel
theorem dX12_isWord_113 : decode cX12_isWord 113 = .ok (.iconst 3, 1) := by decide +kernel
theorem dX12_isWord_114 : decode cX12_isWord 114 = .ok (.if_icmp .ne 8, 3) := by decide +kernel
theorem dX12_isWord_117 : decode cX12_isWord 117 = .ok (.iload 4, 2) := by decide +kernel
theorem dX12_isWord_119 : decode cX12_isWord 119 = .ok (.goto 16, 3) := by decide +kernel
theorem dX12_isWord_122 : decode cX12_isWord 122 = .ok (.iload 9, 2) := by decide +kernel
theorem dX12_isWord_124 : decode cX12_isWord 124 = .ok (.iconst 4, 1) := by decide +kernel
theorem dX12_isWord_125 : decode cX12_isWord 125 = .ok (.if_icmp .ne 8, 3) := by decide +kernel
theorem dX12_isWord_128 : decode cX12_isWord 128 = .ok (.iload 5, 2) := by decide +kernel
theorem dX12_isWord_130 : decode cX12_isWord 130 = .ok (.goto 5, 3) := by decide +kernel
theorem dX12_isWord_133 : decode cX12_isWord 133 = .ok (.iload 6, 2) := by decide +kernel
theorem dX12_isWord_135 : decode cX12_isWord 135 = .ok (.if_icmp .ne 7, 3) := by decide +kernel
theorem dX12_isWord_138 : decode cX12_isWord 138 = .ok (.iconst 1, 1) := by decide +kernel
theorem dX12_isWord_139 : decode cX12_isWord 139 = .ok (.goto 4, 3) := by decide +kernel
theorem dX12_isWord_142 : decode cX12_isWord 142 = .ok (.iconst 0, 1) := by decide +kernel
theorem dX12_isWord_143 : decode cX12_isWord 143 = .ok (.istore 8, 2) := by decide +kernel
theorem dX12_isWord_145 : decode cX12_isWord 145 = .ok (.iinc 9 1, 3) := by decide +kernel
theorem dX12_isWord_148 : decode cX12_isWord 148 = .ok (.goto (-90), 3) := by decide +kernel
theorem dX12_isWord_151 : decode cX12_isWord 151 = .ok (.iload 8, 2) := by decide +kernel
theorem dX12_isWord_153 : decode cX12_isWord 153 = .ok (.ireturn, 1) := by decide +kernel
theorem dX12_takes_0 : decode cX12_takes 0 = .ok (.aload_n 0, 1) := by decide +kernel
theorem dX12_takes_1 : decode cX12_takes 1 = .ok (.getfield 207, 3) := by decide +kernel
theorem dX12_takes_4 : decode cX12_takes 4 = .ok (.iconst 2, 1) := by decide +kernel
theorem dX12_takes_5 : decode cX12_takes 5 = .ok (.if_icmp .ne 18, 3) := by decide +kernel
theorem dX12_takes_8 : decode cX12_takes 8 = .ok (.aload_n 0, 1) := by decide +kernel
theorem dX12_takes_9 : decode cX12_takes 9 = .ok (.getfield 210, 3) := by decide +kernel
theorem dX12_takes_12 : decode cX12_takes 12 = .ok (.i2l, 1) := by decide +kernel
theorem dX12_takes_13 : decode cX12_takes 13 = .ok (.iload_n 2, 1) := by decide +kernel
theorem dX12_takes_14 : decode cX12_takes 14 = .ok (.i2l, 1) := by decide +kernel
theorem dX12_takes_15 : decode cX12_takes 15 = .ok (.iload_n 3, 1) := by decide +kernel
theorem dX12_takes_16 : decode cX12_takes 16 = .ok (.i2l, 1) := by decide +kernel
theorem dX12_takes_17 : decode cX12_takes 17 = .ok (.invokestatic 52, 3) := by decide +kernel
theorem dX12_takes_20 : decode cX12_takes 20 = .ok (.ifCond .ne 5, 3) := by decide +kernel
theorem dX12_takes_23 : decode cX12_takes 23 = .ok (.iconst 0, 1) := by decide +kernel
theorem dX12_takes_24 : decode cX12_takes 24 = .ok (.ireturn, 1) := by decide +kernel
theorem dX12_takes_25 : decode cX12_takes 25 = .ok (.aload_n 0, 1) := by decide +kernel
theorem dX12_takes_26 : decode cX12_takes 26 = .ok (.getfield 45, 3) := by decide +kernel
theorem dX12_takes_29 : decode cX12_takes 29 = .ok (.iload_n 1, 1) := by decide +kernel
theorem dX12_takes_30 : decode cX12_takes 30 = .ok (.aload_n 0, 1) := by decide +kernel
theorem dX12_takes_31 : decode cX12_takes 31 = .ok (.getfield 210, 3) := by decide +kernel
theorem dX12_takes_34 : decode cX12_takes 34 = .ok (.iastore, 1) := by decide +kernel
theorem dX12_takes_35 : decode cX12_takes 35 = .ok (.aload_n 0, 1) := by decide +kernel
theorem dX12_takes_36 : decode cX12_takes 36 = .ok (.invokevirtual 222, 3) := by decide +kernel
theorem dX12_takes_39 : decode cX12_takes 39 = .ok (.iconst 1, 1) := by decide +kernel
theorem dX12_takes_40 : decode cX12_takes 40 = .ok (.ireturn, 1) := by decide +kernel
theorem dX12_readsThing_0 : decode cX12_readsThing 0 = .ok (.aload_n 0, 1) := by decide +kernel
theorem dX12_readsThing_1 : decode cX12_readsThing 1 = .ok (.getfield 42, 3) := by decide +kernel
theorem dX12_readsThing_4 : decode cX12_readsThing 4 = .ok (.iconst 0, 1) := by decide +kernel
theorem dX12_readsThing_5 : decode cX12_readsThing 5 = .ok (.iaload, 1) := by decide +kernel
theorem dX12_readsThing_6 : decode cX12_readsThing 6 = .ok (.iconst 5, 1) := by decide +kernel
theorem dX12_readsThing_7 : decode cX12_readsThing 7 = .ok (.if_icmp .ne 5, 3) := by decide +kernel
theorem dX12_readsThing_10 : decode cX12_readsThing 10 = .ok (.iconst 0, 1) := by decide +kernel
theorem dX12_readsThing_11 : decode cX12_readsThing 11 = .ok (.ireturn, 1) := by decide +kernel
theorem dX12_readsThing_12 : decode cX12_readsThing 12 = .ok (.aload_n 0, 1) := by decide +kernel
theorem dX12_readsThing_13 : decode cX12_readsThing 13 = .ok (.invokevirtual 222, 3) := by decide +kernel
theorem dX12_readsThing_16 : decode cX12_readsThing 16 = .ok (.aload_n 0, 1) := by decide +kernel
theorem dX12_readsThing_17 : decode cX12_readsThing 17 = .ok (.iconst 0, 1) := by decide +kernel
theorem dX12_readsThing_18 : decode cX12_readsThing 18 = .ok (.iconst 0, 1) := by decide +kernel
theorem dX12_readsThing_19 : decode cX12_readsThing 19 = .ok (.iconst 4, 1) := by decide +kernel
theorem dX12_readsThing_20 : decode cX12_readsThing 20 = .ok (.invokevirtual 225, 3) := by decide +kernel
theorem dX12_readsThing_23 : decode cX12_readsThing 23 = .ok (.ifCond .eq 36, 3) := by decide +kernel
theorem dX12_readsThing_26 : decode cX12_readsThing 26 = .ok (.aload_n 0, 1) := by decide +kernel
theorem dX12_readsThing_27 : decode cX12_readsThing 27 = .ok (.iconst 1, 1) := by decide +kernel
theorem dX12_readsThing_28 : decode cX12_readsThing 28 = .ok (.iconst 0, 1) := by decide +kernel
theorem dX12_readsThing_29 : decode cX12_readsThing 29 = .ok (.bipush 9, 2) := by decide +kernel
theorem dX12_readsThing_31 : decode cX12_readsThing 31 = .ok (.invokevirtual 225, 3) := by decide +kernel
theorem dX12_readsThing_34 : decode cX12_readsThing 34 = .ok (.ifCond .eq 25, 3) := by decide +kernel
theorem dX12_readsThing_37 : decode cX12_readsThing 37 = .ok (.aload_n 0, 1) := by decide +kernel
theorem dX12_readsThing_38 : decode cX12_readsThing 38 = .ok (.iconst 2, 1) := by decide +kernel
theorem dX12_readsThing_39 : decode cX12_readsThing 39 = .ok (.iconst 1, 1) := by decide +kernel
theorem dX12_readsThing_40 : decode cX12_readsThing 40 = .ok (.bipush 9, 2) := by decide +kernel
theorem dX12_readsThing_42 : decode cX12_readsThing 42 = .ok (.invokevirtual 225, 3) := by decide +kernel
theorem dX12_readsThing_45 : decode cX12_readsThing 45 = .ok (.ifCond .eq 14, 3) := by decide +kernel
theorem dX12_readsThing_48 : decode cX12_readsThing 48 = .ok (.aload_n 0, 1) := by decide +kernel
theorem dX12_readsThing_49 : decode cX12_readsThing 49 = .ok (.iconst 3, 1) := by decide +kernel
theorem dX12_readsThing_50 : decode cX12_readsThing 50 = .ok (.iconst 0, 1) := by decide +kernel
theorem dX12_readsThing_51 : decode cX12_readsThing 51 = .ok (.bipush 9, 2) := by decide +kernel
theorem dX12_readsThing_53 : decode cX12_readsThing 53 = .ok (.invokevirtual 225, 3) := by decide +kernel
theorem dX12_readsThing_56 : decode cX12_readsThing 56 = .ok (.ifCond .ne 5, 3) := by decide +kernel
theorem dX12_readsThing_59 : decode cX12_readsThing 59 = .ok (.iconst 0, 1) := by decide +kernel
theorem dX12_readsThing_60 : decode cX12_readsThing 60 = .ok (.ireturn, 1) := by decide +kernel
theorem dX12_readsThing_61 : decode cX12_readsThing 61 = .ok (.aload_n 0, 1) := by decide +kernel
theorem dX12_readsThing_62 : decode cX12_readsThing 62 = .ok (.getfield 42, 3) := by decide +kernel
theorem dX12_readsThing_65 : decode cX12_readsThing 65 = .ok (.aload_n 0, 1) := by decide +kernel
theorem dX12_readsThing_66 : decode cX12_readsThing 66 = .ok (.getfield 45, 3) := by decide +kernel
theorem dX12_readsThing_69 : decode cX12_readsThing 69 = .ok (.iconst 0, 1) := by decide +kernel
theorem dX12_readsThing_70 : decode cX12_readsThing 70 = .ok (.iaload, 1) := by decide +kernel
theorem dX12_readsThing_71 : decode cX12_readsThing 71 = .ok (.aload_n 0, 1) := by decide +kernel
theorem dX12_readsThing_72 : decode cX12_readsThing 72 = .ok (.getfield 45, 3) := by decide +kernel
theorem dX12_readsThing_75 : decode cX12_readsThing 75 = .ok (.iconst 1, 1) := by decide +kernel
theorem dX12_readsThing_76 : decode cX12_readsThing 76 = .ok (.iaload, 1) := by decide +kernel
theorem dX12_readsThing_77 : decode cX12_readsThing 77 = .ok (.aload_n 0, 1) := by decide +kernel
theorem dX12_readsThing_78 : decode cX12_readsThing 78 = .ok (.getfield 45, 3) := by decide +kernel
theorem dX12_readsThing_81 : decode cX12_readsThing 81 = .ok (.iconst 2, 1) := by decide +kernel
theorem dX12_readsThing_82 : decode cX12_readsThing 82 = .ok (.iaload, 1) := by decide +kernel
theorem dX12_readsThing_83 : decode cX12_readsThing 83 = .ok (.aload_n 0, 1) := by decide +kernel
theorem dX12_readsThing_84 : decode cX12_readsThing 84 = .ok (.getfield 45, 3) := by decide +kernel
theorem dX12_readsThing_87 : decode cX12_readsThing 87 = .ok (.iconst 3, 1) := by decide +kernel
theorem dX12_readsThing_88 : decode cX12_readsThing 88 = .ok (.iaload, 1) := by decide +kernel
theorem dX12_readsThing_89 : decode cX12_readsThing 89 = .ok (.invokestatic 67, 3) := by decide +kernel
theorem dX12_readsThing_92 : decode cX12_readsThing 92 = .ok (.iconst 1, 1) := by decide +kernel
theorem dX12_readsThing_93 : decode cX12_readsThing 93 = .ok (.ireturn, 1) := by decide +kernel
theorem dX12_readsCut_0 : decode cX12_readsCut 0 = .ok (.aload_n 0, 1) := by decide +kernel
theorem dX12_readsCut_1 : decode cX12_readsCut 1 = .ok (.invokevirtual 222, 3) := by decide +kernel
theorem dX12_readsCut_4 : decode cX12_readsCut 4 = .ok (.aload_n 0, 1) := by decide +kernel
theorem dX12_readsCut_5 : decode cX12_readsCut 5 = .ok (.getfield 207, 3) := by decide +kernel
theorem dX12_readsCut_8 : decode cX12_readsCut 8 = .ok (.iconst 2, 1) := by decide +kernel
theorem dX12_readsCut_9 : decode cX12_readsCut 9 = .ok (.if_icmp .ne 34, 3) := by decide +kernel
theorem dX12_readsCut_12 : decode cX12_readsCut 12 = .ok (.aload_n 0, 1) := by decide +kernel
theorem dX12_readsCut_13 : decode cX12_readsCut 13 = .ok (.getfield 210, 3) := by decide +kernel
theorem dX12_readsCut_16 : decode cX12_readsCut 16 = .ok (.aload_n 0, 1) := by decide +kernel
theorem dX12_readsCut_17 : decode cX12_readsCut 17 = .ok (.getfield 42, 3) := by decide +kernel
theorem dX12_readsCut_20 : decode cX12_readsCut 20 = .ok (.iconst 0, 1) := by decide +kernel
theorem dX12_readsCut_21 : decode cX12_readsCut 21 = .ok (.iaload, 1) := by decide +kernel
theorem dX12_readsCut_22 : decode cX12_readsCut 22 = .ok (.if_icmp .ge 21, 3) := by decide +kernel
theorem dX12_readsCut_25 : decode cX12_readsCut 25 = .ok (.aload_n 0, 1) := by decide +kernel
theorem dX12_readsCut_26 : decode cX12_readsCut 26 = .ok (.getfield 42, 3) := by decide +kernel
theorem dX12_readsCut_29 : decode cX12_readsCut 29 = .ok (.iconst 1, 1) := by decide +kernel
theorem dX12_readsCut_30 : decode cX12_readsCut 30 = .ok (.iconst 5, 1) := by decide +kernel
theorem dX12_readsCut_31 : decode cX12_readsCut 31 = .ok (.aload_n 0, 1) := by decide +kernel
theorem dX12_readsCut_32 : decode cX12_readsCut 32 = .ok (.getfield 210, 3) := by decide +kernel
theorem dX12_readsCut_35 : decode cX12_readsCut 35 = .ok (.imul, 1) := by decide +kernel
theorem dX12_readsCut_36 : decode cX12_readsCut 36 = .ok (.iadd, 1) := by decide +kernel
theorem dX12_readsCut_37 : decode cX12_readsCut 37 = .ok (.iconst 4, 1) := by decide +kernel
theorem dX12_readsCut_38 : decode cX12_readsCut 38 = .ok (.iadd, 1) := by decide +kernel
theorem dX12_readsCut_39 : decode cX12_readsCut 39 = .ok (.iaload, 1) := by decide +kernel
theorem dX12_readsCut_40 : decode cX12_readsCut 40 = .ok (.ifCond .ne 5, 3) := by decide +kernel
theorem dX12_readsCut_43 : decode cX12_readsCut 43 = .ok (.iconst 0, 1) := by decide +kernel
theorem dX12_readsCut_44 : decode cX12_readsCut 44 = .ok (.ireturn, 1) := by decide +kernel
theorem dX12_readsCut_45 : decode cX12_readsCut 45 = .ok (.aload_n 0, 1) := by decide +kernel
theorem dX12_readsCut_46 : decode cX12_readsCut 46 = .ok (.getfield 42, 3) := by decide +kernel
theorem dX12_readsCut_49 : decode cX12_readsCut 49 = .ok (.iconst 1, 1) := by decide +kernel
theorem dX12_readsCut_50 : decode cX12_readsCut 50 = .ok (.iconst 5, 1) := by decide +kernel
theorem dX12_readsCut_51 : decode cX12_readsCut 51 = .ok (.aload_n 0, 1) := by decide +kernel
theorem dX12_readsCut_52 : decode cX12_readsCut 52 = .ok (.getfield 210, 3) := by decide +kernel
theorem dX12_readsCut_55 : decode cX12_readsCut 55 = .ok (.imul, 1) := by decide +kernel
theorem dX12_readsCut_56 : decode cX12_readsCut 56 = .ok (.iadd, 1) := by decide +kernel
theorem dX12_readsCut_57 : decode cX12_readsCut 57 = .ok (.iconst 4, 1) := by decide +kernel
theorem dX12_readsCut_58 : decode cX12_readsCut 58 = .ok (.iadd, 1) := by decide +kernel
theorem dX12_readsCut_59 : decode cX12_readsCut 59 = .ok (.iconst 0, 1) := by decide +kernel
theorem dX12_readsCut_60 : decode cX12_readsCut 60 = .ok (.iastore, 1) := by decide +kernel
theorem dX12_readsCut_61 : decode cX12_readsCut 61 = .ok (.aload_n 0, 1) := by decide +kernel
theorem dX12_readsCut_62 : decode cX12_readsCut 62 = .ok (.invokevirtual 222, 3) := by decide +kernel
theorem dX12_readsCut_65 : decode cX12_readsCut 65 = .ok (.iconst 1, 1) := by decide +kernel
theorem dX12_readsCut_66 : decode cX12_readsCut 66 = .ok (.ireturn, 1) := by decide +kernel
theorem dX12_takesPull_0 : decode cX12_takesPull 0 = .ok (.aload_n 0, 1) := by decide +kernel
theorem dX12_takesPull_1 : decode cX12_takesPull 1 = .ok (.invokevirtual 222, 3) := by decide +kernel
theorem dX12_takesPull_4 : decode cX12_takesPull 4 = .ok (.aload_n 0, 1) := by decide +kernel
theorem dX12_takesPull_5 : decode cX12_takesPull 5 = .ok (.iconst 0, 1) := by decide +kernel
theorem dX12_takesPull_6 : decode cX12_takesPull 6 = .ok (.iconst 0, 1) := by decide +kernel
theorem dX12_takesPull_7 : decode cX12_takesPull 7 = .ok (.aload_n 0, 1) := by decide +kernel
theorem dX12_takesPull_8 : decode cX12_takesPull 8 = .ok (.getfield 42, 3) := by decide +kernel
theorem dX12_takesPull_11 : decode cX12_takesPull 11 = .ok (.iconst 0, 1) := by decide +kernel
theorem dX12_takesPull_12 : decode cX12_takesPull 12 = .ok (.iaload, 1) := by decide +kernel
theorem dX12_takesPull_13 : decode cX12_takesPull 13 = .ok (.iconst 1, 1) := by decide +kernel
theorem dX12_takesPull_14 : decode cX12_takesPull 14 = .ok (.isub, 1) := by decide +kernel
theorem dX12_takesPull_15 : decode cX12_takesPull 15 = .ok (.invokevirtual 225, 3) := by decide +kernel
theorem dX12_takesPull_18 : decode cX12_takesPull 18 = .ok (.ifCond .eq 18, 3) := by decide +kernel
theorem dX12_takesPull_21 : decode cX12_takesPull 21 = .ok (.aload_n 0, 1) := by decide +kernel
theorem dX12_takesPull_22 : decode cX12_takesPull 22 = .ok (.iconst 1, 1) := by decide +kernel
theorem dX12_takesPull_23 : decode cX12_takesPull 23 = .ok (.iconst 0, 1) := by decide +kernel
theorem dX12_takesPull_24 : decode cX12_takesPull 24 = .ok (.bipush 20, 2) := by decide +kernel
theorem dX12_takesPull_26 : decode cX12_takesPull 26 = .ok (.invokevirtual 225, 3) := by decide +kernel
theorem dX12_takesPull_29 : decode cX12_takesPull 29 = .ok (.ifCond .eq 7, 3) := by decide +kernel
theorem dX12_takesPull_32 : decode cX12_takesPull 32 = .ok (.iconst 1, 1) := by decide +kernel
theorem dX12_takesPull_33 : decode cX12_takesPull 33 = .ok (.goto 4, 3) := by decide +kernel
theorem dX12_takesPull_36 : decode cX12_takesPull 36 = .ok (.iconst 0, 1) := by decide +kernel
theorem dX12_takesPull_37 : decode cX12_takesPull 37 = .ok (.ireturn, 1) := by decide +kernel
theorem dX12_readsErrand_0 : decode cX12_readsErrand 0 = .ok (.aload_n 0, 1) := by decide +kernel
theorem dX12_readsErrand_1 : decode cX12_readsErrand 1 = .ok (.getfield 42, 3) := by decide +kernel
theorem dX12_readsErrand_4 : decode cX12_readsErrand 4 = .ok (.bipush 28, 2) := by decide +kernel
theorem dX12_readsErrand_6 : decode cX12_readsErrand 6 = .ok (.iaload, 1) := by decide +kernel
theorem dX12_readsErrand_7 : decode cX12_readsErrand 7 = .ok (.istore_n 1, 1) := by decide +kernel
theorem dX12_readsErrand_8 : decode cX12_readsErrand 8 = .ok (.iload_n 1, 1) := by decide +kernel
theorem dX12_readsErrand_9 : decode cX12_readsErrand 9 = .ok (.iconst 5, 1) := by decide +kernel
theorem dX12_readsErrand_10 : decode cX12_readsErrand 10 = .ok (.if_icmp .eq 10, 3) := by decide +kernel
theorem dX12_readsErrand_13 : decode cX12_readsErrand 13 = .ok (.aload_n 0, 1) := by decide +kernel
theorem dX12_readsErrand_14 : decode cX12_readsErrand 14 = .ok (.invokevirtual 229, 3) := by decide +kernel
theorem dX12_readsErrand_17 : decode cX12_readsErrand 17 = .ok (.ifCond .ne 5, 3) := by decide +kernel
theorem dX12_readsErrand_20 : decode cX12_readsErrand 20 = .ok (.iconst 0, 1) := by decide +kernel
theorem dX12_readsErrand_21 : decode cX12_readsErrand 21 = .ok (.ireturn, 1) := by decide +kernel
theorem dX12_readsErrand_22 : decode cX12_readsErrand 22 = .ok (.aload_n 0, 1) := by decide +kernel
theorem dX12_readsErrand_23 : decode cX12_readsErrand 23 = .ok (.getfield 42, 3) := by decide +kernel
theorem dX12_readsErrand_26 : decode cX12_readsErrand 26 = .ok (.bipush 29, 2) := by decide +kernel
theorem dX12_readsErrand_28 : decode cX12_readsErrand 28 = .ok (.iconst 2, 1) := by decide +kernel
theorem dX12_readsErrand_29 : decode cX12_readsErrand 29 = .ok (.iload_n 1, 1) := by decide +kernel
theorem dX12_readsErrand_30 : decode cX12_readsErrand 30 = .ok (.imul, 1) := by decide +kernel
theorem dX12_readsErrand_31 : decode cX12_readsErrand 31 = .ok (.iadd, 1) := by decide +kernel
theorem dX12_readsErrand_32 : decode cX12_readsErrand 32 = .ok (.aload_n 0, 1) := by decide +kernel
theorem dX12_readsErrand_33 : decode cX12_readsErrand 33 = .ok (.getfield 45, 3) := by decide +kernel
theorem dX12_readsErrand_36 : decode cX12_readsErrand 36 = .ok (.iconst 0, 1) := by decide +kernel
theorem dX12_readsErrand_37 : decode cX12_readsErrand 37 = .ok (.iaload, 1) := by decide +kernel
theorem dX12_readsErrand_38 : decode cX12_readsErrand 38 = .ok (.iastore, 1) := by decide +kernel
theorem dX12_readsErrand_39 : decode cX12_readsErrand 39 = .ok (.aload_n 0, 1) := by decide +kernel
theorem dX12_readsErrand_40 : decode cX12_readsErrand 40 = .ok (.getfield 42, 3) := by decide +kernel
theorem dX12_readsErrand_43 : decode cX12_readsErrand 43 = .ok (.bipush 29, 2) := by decide +kernel
theorem dX12_readsErrand_45 : decode cX12_readsErrand 45 = .ok (.iconst 2, 1) := by decide +kernel
theorem dX12_readsErrand_46 : decode cX12_readsErrand 46 = .ok (.iload_n 1, 1) := by decide +kernel
theorem dX12_readsErrand_47 : decode cX12_readsErrand 47 = .ok (.imul, 1) := by decide +kernel
theorem dX12_readsErrand_48 : decode cX12_readsErrand 48 = .ok (.iadd, 1) := by decide +kernel
theorem dX12_readsErrand_49 : decode cX12_readsErrand 49 = .ok (.iconst 1, 1) := by decide +kernel
theorem dX12_readsErrand_50 : decode cX12_readsErrand 50 = .ok (.iadd, 1) := by decide +kernel
theorem dX12_readsErrand_51 : decode cX12_readsErrand 51 = .ok (.aload_n 0, 1) := by decide +kernel
theorem dX12_readsErrand_52 : decode cX12_readsErrand 52 = .ok (.getfield 45, 3) := by decide +kernel
theorem dX12_readsErrand_55 : decode cX12_readsErrand 55 = .ok (.iconst 1, 1) := by decide +kernel
theorem dX12_readsErrand_56 : decode cX12_readsErrand 56 = .ok (.iaload, 1) := by decide +kernel
theorem dX12_readsErrand_57 : decode cX12_readsErrand 57 = .ok (.iastore, 1) := by decide +kernel
theorem dX12_readsErrand_58 : decode cX12_readsErrand 58 = .ok (.aload_n 0, 1) := by decide +kernel
theorem dX12_readsErrand_59 : decode cX12_readsErrand 59 = .ok (.getfield 42, 3) := by decide +kernel
theorem dX12_readsErrand_62 : decode cX12_readsErrand 62 = .ok (.bipush 28, 2) := by decide +kernel
theorem dX12_readsErrand_64 : decode cX12_readsErrand 64 = .ok (.dup2, 1) := by decide +kernel
theorem dX12_readsErrand_65 : decode cX12_readsErrand 65 = .ok (.iaload, 1) := by decide +kernel
theorem dX12_readsErrand_66 : decode cX12_readsErrand 66 = .ok (.iconst 1, 1) := by decide +kernel
theorem dX12_readsErrand_67 : decode cX12_readsErrand 67 = .ok (.iadd, 1) := by decide +kernel
theorem dX12_readsErrand_68 : decode cX12_readsErrand 68 = .ok (.iastore, 1) := by decide +kernel
theorem dX12_readsErrand_69 : decode cX12_readsErrand 69 = .ok (.iconst 1, 1) := by decide +kernel
theorem dX12_readsErrand_70 : decode cX12_readsErrand 70 = .ok (.ireturn, 1) := by decide +kernel
theorem dX12_readsRule_0 : decode cX12_readsRule 0 = .ok (.aload_n 0, 1) := by decide +kernel
theorem dX12_readsRule_1 : decode cX12_readsRule 1 = .ok (.getfield 42, 3) := by decide +kernel
theorem dX12_readsRule_4 : decode cX12_readsRule 4 = .ok (.bipush 39, 2) := by decide +kernel
theorem dX12_readsRule_6 : decode cX12_readsRule 6 = .ok (.iaload, 1) := by decide +kernel
theorem dX12_readsRule_7 : decode cX12_readsRule 7 = .ok (.iconst 4, 1) := by decide +kernel
theorem dX12_readsRule_8 : decode cX12_readsRule 8 = .ok (.if_icmp .eq 29, 3) := by decide +kernel
theorem dX12_readsRule_11 : decode cX12_readsRule 11 = .ok (.aload_n 0, 1) := by decide +kernel
theorem dX12_readsRule_12 : decode cX12_readsRule 12 = .ok (.invokevirtual 229, 3) := by decide +kernel
theorem dX12_readsRule_15 : decode cX12_readsRule 15 = .ok (.ifCond .eq 22, 3) := by decide +kernel
theorem dX12_readsRule_18 : decode cX12_readsRule 18 = .ok (.aload_n 0, 1) := by decide +kernel
theorem dX12_readsRule_19 : decode cX12_readsRule 19 = .ok (.iconst 2, 1) := by decide +kernel
theorem dX12_readsRule_20 : decode cX12_readsRule 20 = .ok (.iconst 0, 1) := by decide +kernel
theorem dX12_readsRule_21 : decode cX12_readsRule 21 = .ok (.iconst 1, 1) := by decide +kernel
theorem dX12_readsRule_22 : decode cX12_readsRule 22 = .ok (.aload_n 0, 1) := by decide +kernel
theorem dX12_readsRule_23 : decode cX12_readsRule 23 = .ok (.getfield 42, 3) := by decide +kernel
theorem dX12_readsRule_26 : decode cX12_readsRule 26 = .ok (.iconst 0, 1) := by decide +kernel
theorem dX12_readsRule_27 : decode cX12_readsRule 27 = .ok (.iaload, 1) := by decide +kernel
theorem dX12_readsRule_28 : decode cX12_readsRule 28 = .ok (.ishl, 1) := by decide +kernel
theorem dX12_readsRule_29 : decode cX12_readsRule 29 = .ok (.iconst 1, 1) := by decide +kernel
theorem dX12_readsRule_30 : decode cX12_readsRule 30 = .ok (.isub, 1) := by decide +kernel
theorem dX12_readsRule_31 : decode cX12_readsRule 31 = .ok (.invokevirtual 225, 3) := by decide +kernel
theorem dX12_readsRule_34 : decode cX12_readsRule 34 = .ok (.ifCond .ne 5, 3) := by decide +kernel
theorem dX12_readsRule_37 : decode cX12_readsRule 37 = .ok (.iconst 0, 1) := by decide +kernel
theorem dX12_readsRule_38 : decode cX12_readsRule 38 = .ok (.ireturn, 1) := by decide +kernel
theorem dX12_readsRule_39 : decode cX12_readsRule 39 = .ok (.aload_n 0, 1) := by decide +kernel
theorem dX12_readsRule_40 : decode cX12_readsRule 40 = .ok (.getfield 42, 3) := by decide +kernel
theorem dX12_readsRule_43 : decode cX12_readsRule 43 = .ok (.aload_n 0, 1) := by decide +kernel
theorem dX12_readsRule_44 : decode cX12_readsRule 44 = .ok (.getfield 45, 3) := by decide +kernel
theorem dX12_readsRule_47 : decode cX12_readsRule 47 = .ok (.iconst 0, 1) := by decide +kernel
theorem dX12_readsRule_48 : decode cX12_readsRule 48 = .ok (.iaload, 1) := by decide +kernel
theorem dX12_readsRule_49 : decode cX12_readsRule 49 = .ok (.aload_n 0, 1) := by decide +kernel
theorem dX12_readsRule_50 : decode cX12_readsRule 50 = .ok (.getfield 45, 3) := by decide +kernel
theorem dX12_readsRule_53 : decode cX12_readsRule 53 = .ok (.iconst 1, 1) := by decide +kernel
theorem dX12_readsRule_54 : decode cX12_readsRule 54 = .ok (.iaload, 1) := by decide +kernel
theorem dX12_readsRule_55 : decode cX12_readsRule 55 = .ok (.aload_n 0, 1) := by decide +kernel
theorem dX12_readsRule_56 : decode cX12_readsRule 56 = .ok (.getfield 45, 3) := by decide +kernel
theorem dX12_readsRule_59 : decode cX12_readsRule 59 = .ok (.iconst 2, 1) := by decide +kernel
theorem dX12_readsRule_60 : decode cX12_readsRule 60 = .ok (.iaload, 1) := by decide +kernel
theorem dX12_readsRule_61 : decode cX12_readsRule 61 = .ok (.invokestatic 167, 3) := by decide +kernel
theorem dX12_readsRule_64 : decode cX12_readsRule 64 = .ok (.iconst 1, 1) := by decide +kernel
theorem dX12_readsRule_65 : decode cX12_readsRule 65 = .ok (.ireturn, 1) := by decide +kernel
theorem dX12_readsItem_0 : decode cX12_readsItem 0 = .ok (.aload_n 0, 1) := by decide +kernel
theorem dX12_readsItem_1 : decode cX12_readsItem 1 = .ok (.bipush 116, 2) := by decide +kernel
theorem dX12_readsItem_3 : decode cX12_readsItem 3 = .ok (.bipush 104, 2) := by decide +kernel
theorem dX12_readsItem_5 : decode cX12_readsItem 5 = .ok (.bipush 105, 2) := by decide +kernel
theorem dX12_readsItem_7 : decode cX12_readsItem 7 = .ok (.bipush 110, 2) := by decide +kernel
theorem dX12_readsItem_9 : decode cX12_readsItem 9 = .ok (.bipush 103, 2) := by decide +kernel
theorem dX12_readsItem_11 : decode cX12_readsItem 11 = .ok (.iconst 0, 1) := by decide +kernel
theorem dX12_readsItem_12 : decode cX12_readsItem 12 = .ok (.invokevirtual 233, 3) := by decide +kernel
theorem dX12_readsItem_15 : decode cX12_readsItem 15 = .ok (.ifCond .eq 8, 3) := by decide +kernel
theorem dX12_readsItem_18 : decode cX12_readsItem 18 = .ok (.aload_n 0, 1) := by decide +kernel
theorem dX12_readsItem_19 : decode cX12_readsItem 19 = .ok (.invokevirtual 237, 3) := by decide +kernel
theorem dX12_readsItem_22 : decode cX12_readsItem 22 = .ok (.ireturn, 1) := by decide +kernel
theorem dX12_readsItem_23 : decode cX12_readsItem 23 = .ok (.aload_n 0, 1) := by decide +kernel
theorem dX12_readsItem_24 : decode cX12_readsItem 24 = .ok (.bipush 99, 2) := by decide +kernel
theorem dX12_readsItem_26 : decode cX12_readsItem 26 = .ok (.bipush 117, 2) := by decide +kernel
theorem dX12_readsItem_28 : decode cX12_readsItem 28 = .ok (.bipush 116, 2) := by decide +kernel
theorem dX12_readsItem_30 : decode cX12_readsItem 30 = .ok (.iconst 0, 1) := by decide +kernel
theorem dX12_readsItem_31 : decode cX12_readsItem 31 = .ok (.iconst 0, 1) := by decide +kernel
theorem dX12_readsItem_32 : decode cX12_readsItem 32 = .ok (.iconst 0, 1) := by decide +kernel
theorem dX12_readsItem_33 : decode cX12_readsItem 33 = .ok (.invokevirtual 233, 3) := by decide +kernel
theorem dX12_readsItem_36 : decode cX12_readsItem 36 = .ok (.ifCond .eq 8, 3) := by decide +kernel
theorem dX12_readsItem_39 : decode cX12_readsItem 39 = .ok (.aload_n 0, 1) := by decide +kernel
theorem dX12_readsItem_40 : decode cX12_readsItem 40 = .ok (.invokevirtual 240, 3) := by decide +kernel
theorem dX12_readsItem_43 : decode cX12_readsItem 43 = .ok (.ireturn, 1) := by decide +kernel
theorem dX12_readsItem_44 : decode cX12_readsItem 44 = .ok (.aload_n 0, 1) := by decide +kernel
theorem dX12_readsItem_45 : decode cX12_readsItem 45 = .ok (.bipush 100, 2) := by decide +kernel
theorem dX12_readsItem_47 : decode cX12_readsItem 47 = .ok (.bipush 97, 2) := by decide +kernel
theorem dX12_readsItem_49 : decode cX12_readsItem 49 = .ok (.bipush 109, 2) := by decide +kernel
theorem dX12_readsItem_51 : decode cX12_readsItem 51 = .ok (.bipush 112, 2) := by decide +kernel
theorem dX12_readsItem_53 : decode cX12_readsItem 53 = .ok (.iconst 0, 1) := by decide +kernel
theorem dX12_readsItem_54 : decode cX12_readsItem 54 = .ok (.iconst 0, 1) := by decide +kernel
theorem dX12_readsItem_55 : decode cX12_readsItem 55 = .ok (.invokevirtual 233, 3) := by decide +kernel
theorem dX12_readsItem_58 : decode cX12_readsItem 58 = .ok (.ifCond .eq 31, 3) := by decide +kernel
theorem dX12_readsItem_61 : decode cX12_readsItem 61 = .ok (.aload_n 0, 1) := by decide +kernel
theorem dX12_readsItem_62 : decode cX12_readsItem 62 = .ok (.invokevirtual 222, 3) := by decide +kernel
theorem dX12_readsItem_65 : decode cX12_readsItem 65 = .ok (.aload_n 0, 1) := by decide +kernel
theorem dX12_readsItem_66 : decode cX12_readsItem 66 = .ok (.iconst 0, 1) := by decide +kernel
theorem dX12_readsItem_67 : decode cX12_readsItem 67 = .ok (.iconst 0, 1) := by decide +kernel
theorem dX12_readsItem_68 : decode cX12_readsItem 68 = .ok (.bipush 9, 2) := by decide +kernel
theorem dX12_readsItem_70 : decode cX12_readsItem 70 = .ok (.invokevirtual 225, 3) := by decide +kernel
theorem dX12_readsItem_73 : decode cX12_readsItem 73 = .ok (.istore_n 1, 1) := by decide +kernel
theorem dX12_readsItem_74 : decode cX12_readsItem 74 = .ok (.aload_n 0, 1) := by decide +kernel
theorem dX12_readsItem_75 : decode cX12_readsItem 75 = .ok (.getfield 42, 3) := by decide +kernel
theorem dX12_readsItem_78 : decode cX12_readsItem 78 = .ok (.bipush 26, 2) := by decide +kernel
theorem dX12_readsItem_80 : decode cX12_readsItem 80 = .ok (.aload_n 0, 1) := by decide +kernel
theorem dX12_readsItem_81 : decode cX12_readsItem 81 = .ok (.getfield 45, 3) := by decide +kernel
theorem dX12_readsItem_84 : decode cX12_readsItem 84 = .ok (.iconst 0, 1) := by decide +kernel
theorem dX12_readsItem_85 : decode cX12_readsItem 85 = .ok (.iaload, 1) := by decide +kernel
theorem dX12_readsItem_86 : decode cX12_readsItem 86 = .ok (.iastore, 1) := by decide +kernel
theorem dX12_readsItem_87 : decode cX12_readsItem 87 = .ok (.iload_n 1, 1) := by decide +kernel
theorem dX12_readsItem_88 : decode cX12_readsItem 88 = .ok (.ireturn, 1) := by decide +kernel
theorem dX12_readsItem_89 : decode cX12_readsItem 89 = .ok (.aload_n 0, 1) := by decide +kernel
theorem dX12_readsItem_90 : decode cX12_readsItem 90 = .ok (.bipush 101, 2) := by decide +kernel
theorem dX12_readsItem_92 : decode cX12_readsItem 92 = .ok (.bipush 114, 2) := by decide +kernel
theorem dX12_readsItem_94 : decode cX12_readsItem 94 = .ok (.bipush 114, 2) := by decide +kernel
theorem dX12_readsItem_96 : decode cX12_readsItem 96 = .ok (.bipush 97, 2) := by decide +kernel
theorem dX12_readsItem_98 : decode cX12_readsItem 98 = .ok (.bipush 110, 2) := by decide +kernel
theorem dX12_readsItem_100 : decode cX12_readsItem 100 = .ok (.bipush 100, 2) := by decide +kernel
theorem dX12_readsItem_102 : decode cX12_readsItem 102 = .ok (.invokevirtual 233, 3) := by decide +kernel
theorem dX12_readsItem_105 : decode cX12_readsItem 105 = .ok (.ifCond .eq 8, 3) := by decide +kernel
theorem dX12_readsItem_108 : decode cX12_readsItem 108 = .ok (.aload_n 0, 1) := by decide +kernel
theorem dX12_readsItem_109 : decode cX12_readsItem 109 = .ok (.invokevirtual 243, 3) := by decide +kernel
theorem dX12_readsItem_112 : decode cX12_readsItem 112 = .ok (.ireturn, 1) := by decide +kernel
theorem dX12_readsItem_113 : decode cX12_readsItem 113 = .ok (.aload_n 0, 1) := by decide +kernel
theorem dX12_readsItem_114 : decode cX12_readsItem 114 = .ok (.bipush 114, 2) := by decide +kernel
theorem dX12_readsItem_116 : decode cX12_readsItem 116 = .ok (.bipush 117, 2) := by decide +kernel
theorem dX12_readsItem_118 : decode cX12_readsItem 118 = .ok (.bipush 108, 2) := by decide +kernel
theorem dX12_readsItem_120 : decode cX12_readsItem 120 = .ok (.bipush 101, 2) := by decide +kernel
theorem dX12_readsItem_122 : decode cX12_readsItem 122 = .ok (.iconst 0, 1) := by decide +kernel
theorem dX12_readsItem_123 : decode cX12_readsItem 123 = .ok (.iconst 0, 1) := by decide +kernel
theorem dX12_readsItem_124 : decode cX12_readsItem 124 = .ok (.invokevirtual 233, 3) := by decide +kernel
theorem dX12_readsItem_127 : decode cX12_readsItem 127 = .ok (.ifCond .eq 14, 3) := by decide +kernel
theorem dX12_readsItem_130 : decode cX12_readsItem 130 = .ok (.aload_n 0, 1) := by decide +kernel
theorem dX12_readsItem_131 : decode cX12_readsItem 131 = .ok (.invokevirtual 246, 3) := by decide +kernel
theorem dX12_readsItem_134 : decode cX12_readsItem 134 = .ok (.ifCond .eq 7, 3) := by decide +kernel
theorem dX12_readsItem_137 : decode cX12_readsItem 137 = .ok (.iconst 1, 1) := by decide +kernel
theorem dX12_readsItem_138 : decode cX12_readsItem 138 = .ok (.goto 4, 3) := by decide +kernel
theorem dX12_readsItem_141 : decode cX12_readsItem 141 = .ok (.iconst 0, 1) := by decide +kernel
theorem dX12_readsItem_142 : decode cX12_readsItem 142 = .ok (.ireturn, 1) := by decide +kernel
theorem dX12_read_0 : decode cX12_read 0 = .ok (.iconst 0, 1) := by decide +kernel
theorem dX12_read_1 : decode cX12_read 1 = .ok (.istore_n 1, 1) := by decide +kernel
theorem dX12_read_2 : decode cX12_read 2 = .ok (.iload_n 1, 1) := by decide +kernel
theorem dX12_read_3 : decode cX12_read 3 = .ok (.bipush 52, 2) := by decide +kernel
theorem dX12_read_5 : decode cX12_read 5 = .ok (.if_icmp .ge 16, 3) := by decide +kernel
theorem dX12_read_8 : decode cX12_read 8 = .ok (.aload_n 0, 1) := by decide +kernel
theorem dX12_read_9 : decode cX12_read 9 = .ok (.getfield 42, 3) := by decide +kernel
theorem dX12_read_12 : decode cX12_read 12 = .ok (.iload_n 1, 1) := by decide +kernel
theorem dX12_read_13 : decode cX12_read 13 = .ok (.iconst 0, 1) := by decide +kernel
theorem dX12_read_14 : decode cX12_read 14 = .ok (.iastore, 1) := by decide +kernel
theorem dX12_read_15 : decode cX12_read 15 = .ok (.iinc 1 1, 3) := by decide +kernel
theorem dX12_read_18 : decode cX12_read 18 = .ok (.goto (-16), 3) := by decide +kernel
theorem dX12_read_21 : decode cX12_read 21 = .ok (.iconst 0, 1) := by decide +kernel
theorem dX12_read_22 : decode cX12_read 22 = .ok (.istore_n 1, 1) := by decide +kernel
theorem dX12_read_23 : decode cX12_read 23 = .ok (.aload_n 0, 1) := by decide +kernel
theorem dX12_read_24 : decode cX12_read 24 = .ok (.iconst 0, 1) := by decide +kernel
theorem dX12_read_25 : decode cX12_read 25 = .ok (.invokevirtual 219, 3) := by decide +kernel
theorem dX12_read_28 : decode cX12_read 28 = .ok (.aload_n 0, 1) := by decide +kernel
theorem dX12_read_29 : decode cX12_read 29 = .ok (.getfield 207, 3) := by decide +kernel
theorem dX12_read_32 : decode cX12_read 32 = .ok (.ifCond .eq 36, 3) := by decide +kernel
theorem dX12_read_35 : decode cX12_read 35 = .ok (.aload_n 0, 1) := by decide +kernel
theorem dX12_read_36 : decode cX12_read 36 = .ok (.invokevirtual 249, 3) := by decide +kernel
theorem dX12_read_39 : decode cX12_read 39 = .ok (.ifCond .eq 11, 3) := by decide +kernel
theorem dX12_read_42 : decode cX12_read 42 = .ok (.aload_n 0, 1) := by decide +kernel
theorem dX12_read_43 : decode cX12_read 43 = .ok (.getfield 207, 3) := by decide +kernel
theorem dX12_read_46 : decode cX12_read 46 = .ok (.iconst 3, 1) := by decide +kernel
theorem dX12_read_47 : decode cX12_read 47 = .ok (.if_icmp .eq 11, 3) := by decide +kernel
theorem dX12_read_50 : decode cX12_read 50 = .ok (.bipush (-10), 2) := by decide +kernel
theorem dX12_read_52 : decode cX12_read 52 = .ok (.aload_n 0, 1) := by decide +kernel
theorem dX12_read_53 : decode cX12_read 53 = .ok (.getfield 201, 3) := by decide +kernel
theorem dX12_read_56 : decode cX12_read 56 = .ok (.isub, 1) := by decide +kernel
theorem dX12_read_57 : decode cX12_read 57 = .ok (.ireturn, 1) := by decide +kernel
theorem dX12_read_58 : decode cX12_read 58 = .ok (.aload_n 0, 1) := by decide +kernel
theorem dX12_read_59 : decode cX12_read 59 = .ok (.invokevirtual 222, 3) := by decide +kernel
theorem dX12_read_62 : decode cX12_read 62 = .ok (.iinc 1 1, 3) := by decide +kernel
theorem dX12_read_65 : decode cX12_read 65 = .ok (.goto (-37), 3) := by decide +kernel
theorem dX12_read_68 : decode cX12_read 68 = .ok (.iconst 0, 1) := by decide +kernel
theorem dX12_read_69 : decode cX12_read 69 = .ok (.istore_n 2, 1) := by decide +kernel
theorem dX12_read_70 : decode cX12_read 70 = .ok (.iload_n 2, 1) := by decide +kernel
theorem dX12_read_71 : decode cX12_read 71 = .ok (.bipush 52, 2) := by decide +kernel
theorem dX12_read_73 : decode cX12_read 73 = .ok (.if_icmp .ge 21, 3) := by decide +kernel
theorem dX12_read_76 : decode cX12_read 76 = .ok (.aload_n 0, 1) := by decide +kernel
theorem dX12_read_77 : decode cX12_read 77 = .ok (.getfield 7, 3) := by decide +kernel
theorem dX12_read_80 : decode cX12_read 80 = .ok (.iload_n 2, 1) := by decide +kernel
theorem dX12_read_81 : decode cX12_read 81 = .ok (.aload_n 0, 1) := by decide +kernel
theorem dX12_read_82 : decode cX12_read 82 = .ok (.getfield 42, 3) := by decide +kernel
theorem dX12_read_85 : decode cX12_read 85 = .ok (.iload_n 2, 1) := by decide +kernel
theorem dX12_read_86 : decode cX12_read 86 = .ok (.iaload, 1) := by decide +kernel
theorem dX12_read_87 : decode cX12_read 87 = .ok (.iastore, 1) := by decide +kernel
theorem dX12_read_88 : decode cX12_read 88 = .ok (.iinc 2 1, 3) := by decide +kernel
theorem dX12_read_91 : decode cX12_read 91 = .ok (.goto (-21), 3) := by decide +kernel
theorem dX12_read_94 : decode cX12_read 94 = .ok (.aload_n 0, 1) := by decide +kernel
theorem dX12_read_95 : decode cX12_read 95 = .ok (.getfield 7, 3) := by decide +kernel
theorem dX12_read_98 : decode cX12_read 98 = .ok (.bipush 52, 2) := by decide +kernel
theorem dX12_read_100 : decode cX12_read 100 = .ok (.iconst 0, 1) := by decide +kernel
theorem dX12_read_101 : decode cX12_read 101 = .ok (.iastore, 1) := by decide +kernel
theorem dX12_read_102 : decode cX12_read 102 = .ok (.iload_n 1, 1) := by decide +kernel
theorem dX12_read_103 : decode cX12_read 103 = .ok (.ireturn, 1) := by decide +kernel
theorem dX12_part_0 : decode cX12_part 0 = .ok (.iload_n 1, 1) := by decide +kernel
theorem dX12_part_1 : decode cX12_part 1 = .ok (.ifCond .ne 10, 3) := by decide +kernel
theorem dX12_part_4 : decode cX12_part 4 = .ok (.aload_n 0, 1) := by decide +kernel
theorem dX12_part_5 : decode cX12_part 5 = .ok (.getfield 183, 3) := by decide +kernel
theorem dX12_part_8 : decode cX12_part 8 = .ok (.goto 23, 3) := by decide +kernel
theorem dX12_part_11 : decode cX12_part 11 = .ok (.iload_n 1, 1) := by decide +kernel
theorem dX12_part_12 : decode cX12_part 12 = .ok (.iconst 1, 1) := by decide +kernel
theorem dX12_part_13 : decode cX12_part 13 = .ok (.if_icmp .ne 10, 3) := by decide +kernel
theorem dX12_part_16 : decode cX12_part 16 = .ok (.aload_n 0, 1) := by decide +kernel
theorem dX12_part_17 : decode cX12_part 17 = .ok (.getfield 23, 3) := by decide +kernel
theorem dX12_part_20 : decode cX12_part 20 = .ok (.goto 11, 3) := by decide +kernel
theorem dX12_part_23 : decode cX12_part 23 = .ok (.aload_n 0, 1) := by decide +kernel
theorem dX12_part_24 : decode cX12_part 24 = .ok (.sipush (-1000), 3) := by decide +kernel
theorem dX12_part_27 : decode cX12_part 27 = .ok (.invokevirtual 60, 3) := by decide +kernel
theorem dX12_part_30 : decode cX12_part 30 = .ok (.i2l, 1) := by decide +kernel
theorem dX12_part_31 : decode cX12_part 31 = .ok (.lreturn, 1) := by decide +kernel
theorem dX12_image_0 : decode cX12_image 0 = .ok (.iload_n 1, 1) := by decide +kernel
theorem dX12_image_1 : decode cX12_image 1 = .ok (.i2l, 1) := by decide +kernel
theorem dX12_image_2 : decode cX12_image 2 = .ok (.lconst 0, 1) := by decide +kernel
theorem dX12_image_3 : decode cX12_image 3 = .ok (.lconst 1, 1) := by decide +kernel
theorem dX12_image_4 : decode cX12_image 4 = .ok (.invokestatic 52, 3) := by decide +kernel
theorem dX12_image_7 : decode cX12_image 7 = .ok (.ifCond .ne 10, 3) := by decide +kernel
theorem dX12_image_10 : decode cX12_image 10 = .ok (.aload_n 0, 1) := by decide +kernel
theorem dX12_image_11 : decode cX12_image 11 = .ok (.bipush (-2), 2) := by decide +kernel
theorem dX12_image_13 : decode cX12_image 13 = .ok (.invokevirtual 60, 3) := by decide +kernel
theorem dX12_image_16 : decode cX12_image 16 = .ok (.ireturn, 1) := by decide +kernel
theorem dX12_image_17 : decode cX12_image 17 = .ok (.iconst 0, 1) := by decide +kernel
theorem dX12_image_18 : decode cX12_image 18 = .ok (.istore_n 2, 1) := by decide +kernel
theorem dX12_image_19 : decode cX12_image 19 = .ok (.iload_n 2, 1) := by decide +kernel
theorem dX12_image_20 : decode cX12_image 20 = .ok (.bipush 63, 2) := by decide +kernel
theorem dX12_image_22 : decode cX12_image 22 = .ok (.if_icmp .ge 26, 3) := by decide +kernel
theorem dX12_image_25 : decode cX12_image 25 = .ok (.aload_n 0, 1) := by decide +kernel
theorem dX12_image_26 : decode cX12_image 26 = .ok (.getfield 13, 3) := by decide +kernel
theorem dX12_image_29 : decode cX12_image 29 = .ok (.bipush 63, 2) := by decide +kernel
theorem dX12_image_31 : decode cX12_image 31 = .ok (.iload_n 1, 1) := by decide +kernel
theorem dX12_image_32 : decode cX12_image 32 = .ok (.imul, 1) := by decide +kernel
theorem dX12_image_33 : decode cX12_image 33 = .ok (.iload_n 2, 1) := by decide +kernel
theorem dX12_image_34 : decode cX12_image 34 = .ok (.iadd, 1) := by decide +kernel
theorem dX12_image_35 : decode cX12_image 35 = .ok (.aload_n 0, 1) := by decide +kernel
theorem dX12_image_36 : decode cX12_image 36 = .ok (.getfield 7, 3) := by decide +kernel
theorem dX12_image_39 : decode cX12_image 39 = .ok (.iload_n 2, 1) := by decide +kernel
theorem dX12_image_40 : decode cX12_image 40 = .ok (.iaload, 1) := by decide +kernel
theorem dX12_image_41 : decode cX12_image 41 = .ok (.iastore, 1) := by decide +kernel
theorem dX12_image_42 : decode cX12_image 42 = .ok (.iinc 2 1, 3) := by decide +kernel
theorem dX12_image_45 : decode cX12_image 45 = .ok (.goto (-26), 3) := by decide +kernel
theorem dX12_image_48 : decode cX12_image 48 = .ok (.aload_n 0, 1) := by decide +kernel
theorem dX12_image_49 : decode cX12_image 49 = .ok (.getfield 16, 3) := by decide +kernel
theorem dX12_image_52 : decode cX12_image 52 = .ok (.iload_n 1, 1) := by decide +kernel
theorem dX12_image_53 : decode cX12_image 53 = .ok (.iconst 1, 1) := by decide +kernel
theorem dX12_image_54 : decode cX12_image 54 = .ok (.bastore, 1) := by decide +kernel
theorem dX12_image_55 : decode cX12_image 55 = .ok (.iconst 1, 1) := by decide +kernel
theorem dX12_image_56 : decode cX12_image 56 = .ok (.ireturn, 1) := by decide +kernel
theorem dX12_from_0 : decode cX12_from 0 = .ok (.iload_n 1, 1) := by decide +kernel
theorem dX12_from_1 : decode cX12_from 1 = .ok (.i2l, 1) := by decide +kernel
theorem dX12_from_2 : decode cX12_from 2 = .ok (.lconst 0, 1) := by decide +kernel
theorem dX12_from_3 : decode cX12_from 3 = .ok (.lconst 1, 1) := by decide +kernel
theorem dX12_from_4 : decode cX12_from 4 = .ok (.invokestatic 52, 3) := by decide +kernel
theorem dX12_from_7 : decode cX12_from 7 = .ok (.ifCond .ne 10, 3) := by decide +kernel
theorem dX12_from_10 : decode cX12_from 10 = .ok (.aload_n 0, 1) := by decide +kernel
theorem dX12_from_11 : decode cX12_from 11 = .ok (.bipush (-2), 2) := by decide +kernel
theorem dX12_from_13 : decode cX12_from 13 = .ok (.invokevirtual 60, 3) := by decide +kernel
theorem dX12_from_16 : decode cX12_from 16 = .ok (.ireturn, 1) := by decide +kernel
theorem dX12_from_17 : decode cX12_from 17 = .ok (.aload_n 0, 1) := by decide +kernel
theorem dX12_from_18 : decode cX12_from 18 = .ok (.getfield 16, 3) := by decide +kernel
theorem dX12_from_21 : decode cX12_from 21 = .ok (.iload_n 1, 1) := by decide +kernel
theorem dX12_from_22 : decode cX12_from 22 = .ok (.baload, 1) := by decide +kernel
theorem dX12_from_23 : decode cX12_from 23 = .ok (.ifCond .ne 10, 3) := by decide +kernel
theorem dX12_from_26 : decode cX12_from 26 = .ok (.aload_n 0, 1) := by decide +kernel
theorem dX12_from_27 : decode cX12_from 27 = .ok (.bipush (-3), 2) := by decide +kernel
theorem dX12_from_29 : decode cX12_from 29 = .ok (.invokevirtual 79, 3) := by decide +kernel
theorem dX12_from_32 : decode cX12_from 32 = .ok (.ireturn, 1) := by decide +kernel
theorem dX12_from_33 : decode cX12_from 33 = .ok (.iconst 0, 1) := by decide +kernel
theorem dX12_from_34 : decode cX12_from 34 = .ok (.istore_n 2, 1) := by decide +kernel
theorem dX12_from_35 : decode cX12_from 35 = .ok (.iload_n 2, 1) := by decide +kernel
theorem dX12_from_36 : decode cX12_from 36 = .ok (.bipush 63, 2) := by decide +kernel
theorem dX12_from_38 : decode cX12_from 38 = .ok (.if_icmp .ge 26, 3) := by decide +kernel
theorem dX12_from_41 : decode cX12_from 41 = .ok (.aload_n 0, 1) := by decide +kernel
theorem dX12_from_42 : decode cX12_from 42 = .ok (.getfield 7, 3) := by decide +kernel
theorem dX12_from_45 : decode cX12_from 45 = .ok (.iload_n 2, 1) := by decide +kernel
theorem dX12_from_46 : decode cX12_from 46 = .ok (.aload_n 0, 1) := by decide +kernel
theorem dX12_from_47 : decode cX12_from 47 = .ok (.getfield 13, 3) := by decide +kernel
theorem dX12_from_50 : decode cX12_from 50 = .ok (.bipush 63, 2) := by decide +kernel
theorem dX12_from_52 : decode cX12_from 52 = .ok (.iload_n 1, 1) := by decide +kernel
theorem dX12_from_53 : decode cX12_from 53 = .ok (.imul, 1) := by decide +kernel
theorem dX12_from_54 : decode cX12_from 54 = .ok (.iload_n 2, 1) := by decide +kernel
theorem dX12_from_55 : decode cX12_from 55 = .ok (.iadd, 1) := by decide +kernel
theorem dX12_from_56 : decode cX12_from 56 = .ok (.iaload, 1) := by decide +kernel
theorem dX12_from_57 : decode cX12_from 57 = .ok (.iastore, 1) := by decide +kernel
theorem dX12_from_58 : decode cX12_from 58 = .ok (.iinc 2 1, 3) := by decide +kernel
theorem dX12_from_61 : decode cX12_from 61 = .ok (.goto (-26), 3) := by decide +kernel
theorem dX12_from_64 : decode cX12_from 64 = .ok (.iconst 1, 1) := by decide +kernel
theorem dX12_from_65 : decode cX12_from 65 = .ok (.ireturn, 1) := by decide +kernel
theorem dX12_status_0 : decode cX12_status 0 = .ok (.iload_n 1, 1) := by decide +kernel
theorem dX12_status_1 : decode cX12_status 1 = .ok (.i2l, 1) := by decide +kernel
theorem dX12_status_2 : decode cX12_status 2 = .ok (.lconst 0, 1) := by decide +kernel
theorem dX12_status_3 : decode cX12_status 3 = .ok (.ldc2_w 252, 3) := by decide +kernel
theorem dX12_status_6 : decode cX12_status 6 = .ok (.invokestatic 52, 3) := by decide +kernel
theorem dX12_status_9 : decode cX12_status 9 = .ok (.ifCond .eq 12, 3) := by decide +kernel
theorem dX12_status_12 : decode cX12_status 12 = .ok (.aload_n 0, 1) := by decide +kernel
theorem dX12_status_13 : decode cX12_status 13 = .ok (.getfield 20, 3) := by decide +kernel
theorem dX12_status_16 : decode cX12_status 16 = .ok (.iload_n 1, 1) := by decide +kernel
theorem dX12_status_17 : decode cX12_status 17 = .ok (.iaload, 1) := by decide +kernel
theorem dX12_status_18 : decode cX12_status 18 = .ok (.goto 8, 3) := by decide +kernel
theorem dX12_status_21 : decode cX12_status 21 = .ok (.aload_n 0, 1) := by decide +kernel
theorem dX12_status_22 : decode cX12_status 22 = .ok (.iconst (-1), 1) := by decide +kernel
theorem dX12_status_23 : decode cX12_status 23 = .ok (.invokevirtual 60, 3) := by decide +kernel
theorem dX12_status_26 : decode cX12_status 26 = .ok (.ireturn, 1) := by decide +kernel
theorem dX12_counted_0 : decode cX12_counted 0 = .ok (.iload_n 1, 1) := by decide +kernel
theorem dX12_counted_1 : decode cX12_counted 1 = .ok (.tableswitch 75 0 5 #[39, 44, 52, 57, 62, 70], 39) := by decide +kernel
theorem dX12_counted_40 : decode cX12_counted 40 = .ok (.aload_n 0, 1) := by decide +kernel
theorem dX12_counted_41 : decode cX12_counted 41 = .ok (.invokevirtual 48, 3) := by decide +kernel
theorem dX12_counted_44 : decode cX12_counted 44 = .ok (.ireturn, 1) := by decide +kernel
theorem dX12_counted_45 : decode cX12_counted 45 = .ok (.aload_n 0, 1) := by decide +kernel
theorem dX12_counted_46 : decode cX12_counted 46 = .ok (.invokevirtual 86, 3) := by decide +kernel
theorem dX12_counted_49 : decode cX12_counted 49 = .ok (.invokestatic 136, 3) := by decide +kernel
theorem dX12_counted_52 : decode cX12_counted 52 = .ok (.ireturn, 1) := by decide +kernel
theorem dX12_counted_53 : decode cX12_counted 53 = .ok (.aload_n 0, 1) := by decide +kernel
theorem dX12_counted_54 : decode cX12_counted 54 = .ok (.invokevirtual 133, 3) := by decide +kernel
theorem dX12_counted_57 : decode cX12_counted 57 = .ok (.ireturn, 1) := by decide +kernel
theorem dX12_counted_58 : decode cX12_counted 58 = .ok (.aload_n 0, 1) := by decide +kernel
theorem dX12_counted_59 : decode cX12_counted 59 = .ok (.invokevirtual 164, 3) := by decide +kernel
theorem dX12_counted_62 : decode cX12_counted 62 = .ok (.ireturn, 1) := by decide +kernel
theorem dX12_counted_63 : decode cX12_counted 63 = .ok (.aload_n 0, 1) := by decide +kernel
theorem dX12_counted_64 : decode cX12_counted 64 = .ok (.getfield 7, 3) := by decide +kernel
theorem dX12_counted_67 : decode cX12_counted 67 = .ok (.bipush 52, 2) := by decide +kernel
theorem dX12_counted_69 : decode cX12_counted 69 = .ok (.iaload, 1) := by decide +kernel
theorem dX12_counted_70 : decode cX12_counted 70 = .ok (.ireturn, 1) := by decide +kernel
theorem dX12_counted_71 : decode cX12_counted 71 = .ok (.aload_n 0, 1) := by decide +kernel
theorem dX12_counted_72 : decode cX12_counted 72 = .ok (.getfield 188, 3) := by decide +kernel
theorem dX12_counted_75 : decode cX12_counted 75 = .ok (.ireturn, 1) := by decide +kernel
theorem dX12_counted_76 : decode cX12_counted 76 = .ok (.aload_n 0, 1) := by decide +kernel
theorem dX12_counted_77 : decode cX12_counted 77 = .ok (.getfield 7, 3) := by decide +kernel
theorem dX12_counted_80 : decode cX12_counted 80 = .ok (.bipush 26, 2) := by decide +kernel
theorem dX12_counted_82 : decode cX12_counted 82 = .ok (.iaload, 1) := by decide +kernel
theorem dX12_counted_83 : decode cX12_counted 83 = .ok (.ireturn, 1) := by decide +kernel
theorem dX12_count_0 : decode cX12_count 0 = .ok (.iload_n 1, 1) := by decide +kernel
theorem dX12_count_1 : decode cX12_count 1 = .ok (.i2l, 1) := by decide +kernel
theorem dX12_count_2 : decode cX12_count 2 = .ok (.lconst 0, 1) := by decide +kernel
theorem dX12_count_3 : decode cX12_count 3 = .ok (.ldc2_w 254, 3) := by decide +kernel
theorem dX12_count_6 : decode cX12_count 6 = .ok (.invokestatic 52, 3) := by decide +kernel
theorem dX12_count_9 : decode cX12_count 9 = .ok (.ifCond .eq 11, 3) := by decide +kernel
theorem dX12_count_12 : decode cX12_count 12 = .ok (.aload_n 0, 1) := by decide +kernel
theorem dX12_count_13 : decode cX12_count 13 = .ok (.iload_n 1, 1) := by decide +kernel
theorem dX12_count_14 : decode cX12_count 14 = .ok (.invokevirtual 256, 3) := by decide +kernel
theorem dX12_count_17 : decode cX12_count 17 = .ok (.goto 9, 3) := by decide +kernel
theorem dX12_count_20 : decode cX12_count 20 = .ok (.aload_n 0, 1) := by decide +kernel
theorem dX12_count_21 : decode cX12_count 21 = .ok (.bipush (-2), 2) := by decide +kernel
theorem dX12_count_23 : decode cX12_count 23 = .ok (.invokevirtual 60, 3) := by decide +kernel
theorem dX12_count_26 : decode cX12_count 26 = .ok (.ireturn, 1) := by decide +kernel
theorem dX12_sums_0 : decode cX12_sums 0 = .ok (.lload_n 1, 1) := by decide +kernel
theorem dX12_sums_1 : decode cX12_sums 1 = .ok (.lstore 5, 2) := by decide +kernel
theorem dX12_sums_3 : decode cX12_sums 3 = .ok (.iconst 0, 1) := by decide +kernel
theorem dX12_sums_4 : decode cX12_sums 4 = .ok (.istore 7, 2) := by decide +kernel
theorem dX12_sums_6 : decode cX12_sums 6 = .ok (.iload 7, 2) := by decide +kernel
theorem dX12_sums_8 : decode cX12_sums 8 = .ok (.iload 4, 2) := by decide +kernel
theorem dX12_sums_10 : decode cX12_sums 10 = .ok (.if_icmp .ge 28, 3) := by decide +kernel
theorem dX12_sums_13 : decode cX12_sums 13 = .ok (.ldc2_w 259, 3) := by decide +kernel
theorem dX12_sums_16 : decode cX12_sums 16 = .ok (.lload 5, 2) := by decide +kernel
theorem dX12_sums_18 : decode cX12_sums 18 = .ok (.lmul, 1) := by decide +kernel
theorem dX12_sums_19 : decode cX12_sums 19 = .ok (.aload_n 0, 1) := by decide +kernel
theorem dX12_sums_20 : decode cX12_sums 20 = .ok (.getfield 7, 3) := by decide +kernel
theorem dX12_sums_23 : decode cX12_sums 23 = .ok (.iload_n 3, 1) := by decide +kernel
theorem dX12_sums_24 : decode cX12_sums 24 = .ok (.iload 7, 2) := by decide +kernel
theorem dX12_sums_26 : decode cX12_sums 26 = .ok (.iadd, 1) := by decide +kernel
theorem dX12_sums_27 : decode cX12_sums 27 = .ok (.iaload, 1) := by decide +kernel
theorem dX12_sums_28 : decode cX12_sums 28 = .ok (.i2l, 1) := by decide +kernel
theorem dX12_sums_29 : decode cX12_sums 29 = .ok (.ladd, 1) := by decide +kernel
theorem dX12_sums_30 : decode cX12_sums 30 = .ok (.lstore 5, 2) := by decide +kernel
theorem dX12_sums_32 : decode cX12_sums 32 = .ok (.iinc 7 1, 3) := by decide +kernel
theorem dX12_sums_35 : decode cX12_sums 35 = .ok (.goto (-29), 3) := by decide +kernel
theorem dX12_sums_38 : decode cX12_sums 38 = .ok (.lload 5, 2) := by decide +kernel
theorem dX12_sums_40 : decode cX12_sums 40 = .ok (.lreturn, 1) := by decide +kernel
theorem dX12_digest_0 : decode cX12_digest 0 = .ok (.ldc2_w 261, 3) := by decide +kernel
theorem dX12_digest_3 : decode cX12_digest 3 = .ok (.lstore_n 1, 1) := by decide +kernel
theorem dX12_digest_4 : decode cX12_digest 4 = .ok (.iconst 0, 1) := by decide +kernel
theorem dX12_digest_5 : decode cX12_digest 5 = .ok (.istore_n 3, 1) := by decide +kernel
theorem dX12_digest_6 : decode cX12_digest 6 = .ok (.iload_n 3, 1) := by decide +kernel
theorem dX12_digest_7 : decode cX12_digest 7 = .ok (.bipush 7, 2) := by decide +kernel
theorem dX12_digest_9 : decode cX12_digest 9 = .ok (.if_icmp .ge 22, 3) := by decide +kernel
theorem dX12_digest_12 : decode cX12_digest 12 = .ok (.ldc2_w 259, 3) := by decide +kernel
theorem dX12_digest_15 : decode cX12_digest 15 = .ok (.lload_n 1, 1) := by decide +kernel
theorem dX12_digest_16 : decode cX12_digest 16 = .ok (.lmul, 1) := by decide +kernel
theorem dX12_digest_17 : decode cX12_digest 17 = .ok (.aload_n 0, 1) := by decide +kernel
theorem dX12_digest_18 : decode cX12_digest 18 = .ok (.iload_n 3, 1) := by decide +kernel
theorem dX12_digest_19 : decode cX12_digest 19 = .ok (.invokevirtual 256, 3) := by decide +kernel
theorem dX12_digest_22 : decode cX12_digest 22 = .ok (.i2l, 1) := by decide +kernel
theorem dX12_digest_23 : decode cX12_digest 23 = .ok (.ladd, 1) := by decide +kernel
theorem dX12_digest_24 : decode cX12_digest 24 = .ok (.lstore_n 1, 1) := by decide +kernel
theorem dX12_digest_25 : decode cX12_digest 25 = .ok (.iinc 3 1, 3) := by decide +kernel
theorem dX12_digest_28 : decode cX12_digest 28 = .ok (.goto (-22), 3) := by decide +kernel
theorem dX12_digest_31 : decode cX12_digest 31 = .ok (.ldc2_w 259, 3) := by decide +kernel
theorem dX12_digest_34 : decode cX12_digest 34 = .ok (.lload_n 1, 1) := by decide +kernel
theorem dX12_digest_35 : decode cX12_digest 35 = .ok (.lmul, 1) := by decide +kernel
theorem dX12_digest_36 : decode cX12_digest 36 = .ok (.aload_n 0, 1) := by decide +kernel
theorem dX12_digest_37 : decode cX12_digest 37 = .ok (.getfield 7, 3) := by decide +kernel
theorem dX12_digest_40 : decode cX12_digest 40 = .ok (.bipush 27, 2) := by decide +kernel
theorem dX12_digest_42 : decode cX12_digest 42 = .ok (.iaload, 1) := by decide +kernel
theorem dX12_digest_43 : decode cX12_digest 43 = .ok (.i2l, 1) := by decide +kernel
theorem dX12_digest_44 : decode cX12_digest 44 = .ok (.ladd, 1) := by decide +kernel
theorem dX12_digest_45 : decode cX12_digest 45 = .ok (.lstore_n 1, 1) := by decide +kernel
theorem dX12_digest_46 : decode cX12_digest 46 = .ok (.aload_n 0, 1) := by decide +kernel
theorem dX12_digest_47 : decode cX12_digest 47 = .ok (.lload_n 1, 1) := by decide +kernel
theorem dX12_digest_48 : decode cX12_digest 48 = .ok (.iconst 1, 1) := by decide +kernel
theorem dX12_digest_49 : decode cX12_digest 49 = .ok (.iconst 5, 1) := by decide +kernel
theorem dX12_digest_50 : decode cX12_digest 50 = .ok (.aload_n 0, 1) := by decide +kernel
theorem dX12_digest_51 : decode cX12_digest 51 = .ok (.invokevirtual 48, 3) := by decide +kernel
theorem dX12_digest_54 : decode cX12_digest 54 = .ok (.imul, 1) := by decide +kernel
theorem dX12_digest_55 : decode cX12_digest 55 = .ok (.invokevirtual 263, 3) := by decide +kernel
theorem dX12_digest_58 : decode cX12_digest 58 = .ok (.lstore_n 1, 1) := by decide +kernel
theorem dX12_digest_59 : decode cX12_digest 59 = .ok (.aload_n 0, 1) := by decide +kernel
theorem dX12_digest_60 : decode cX12_digest 60 = .ok (.lload_n 1, 1) := by decide +kernel
theorem dX12_digest_61 : decode cX12_digest 61 = .ok (.bipush 29, 2) := by decide +kernel
theorem dX12_digest_63 : decode cX12_digest 63 = .ok (.iconst 2, 1) := by decide +kernel
theorem dX12_digest_64 : decode cX12_digest 64 = .ok (.aload_n 0, 1) := by decide +kernel
theorem dX12_digest_65 : decode cX12_digest 65 = .ok (.invokevirtual 133, 3) := by decide +kernel
theorem dX12_digest_68 : decode cX12_digest 68 = .ok (.imul, 1) := by decide +kernel
theorem dX12_digest_69 : decode cX12_digest 69 = .ok (.invokevirtual 263, 3) := by decide +kernel
theorem dX12_digest_72 : decode cX12_digest 72 = .ok (.lstore_n 1, 1) := by decide +kernel
theorem dX12_digest_73 : decode cX12_digest 73 = .ok (.aload_n 0, 1) := by decide +kernel
theorem dX12_digest_74 : decode cX12_digest 74 = .ok (.lload_n 1, 1) := by decide +kernel
theorem dX12_digest_75 : decode cX12_digest 75 = .ok (.bipush 40, 2) := by decide +kernel
theorem dX12_digest_77 : decode cX12_digest 77 = .ok (.iconst 3, 1) := by decide +kernel
theorem dX12_digest_78 : decode cX12_digest 78 = .ok (.aload_n 0, 1) := by decide +kernel
theorem dX12_digest_79 : decode cX12_digest 79 = .ok (.invokevirtual 164, 3) := by decide +kernel
theorem dX12_digest_82 : decode cX12_digest 82 = .ok (.imul, 1) := by decide +kernel
theorem dX12_digest_83 : decode cX12_digest 83 = .ok (.invokevirtual 263, 3) := by decide +kernel
theorem dX12_digest_86 : decode cX12_digest 86 = .ok (.lstore_n 1, 1) := by decide +kernel
theorem dX12_digest_87 : decode cX12_digest 87 = .ok (.ldc2_w 259, 3) := by decide +kernel
theorem dX12_digest_90 : decode cX12_digest 90 = .ok (.ldc2_w 259, 3) := by decide +kernel
theorem dX12_digest_93 : decode cX12_digest 93 = .ok (.lload_n 1, 1) := by decide +kernel
theorem dX12_digest_94 : decode cX12_digest 94 = .ok (.lmul, 1) := by decide +kernel
theorem dX12_digest_95 : decode cX12_digest 95 = .ok (.aload_n 0, 1) := by decide +kernel
theorem dX12_digest_96 : decode cX12_digest 96 = .ok (.getfield 183, 3) := by decide +kernel
theorem dX12_digest_99 : decode cX12_digest 99 = .ok (.ladd, 1) := by decide +kernel
theorem dX12_digest_100 : decode cX12_digest 100 = .ok (.lmul, 1) := by decide +kernel
theorem dX12_digest_101 : decode cX12_digest 101 = .ok (.aload_n 0, 1) := by decide +kernel
theorem dX12_digest_102 : decode cX12_digest 102 = .ok (.getfield 23, 3) := by decide +kernel
theorem dX12_digest_105 : decode cX12_digest 105 = .ok (.ladd, 1) := by decide +kernel
theorem dX12_digest_106 : decode cX12_digest 106 = .ok (.lreturn, 1) := by decide +kernel
end
section
/-! more rows: array copy, boolean stores, static calls of other classes, Math -/
section KMORE
variable {own : String} {cc : ByteArray} {nL : Nat} {rt : Option FieldType} {G : GG} {A : Nat → Prop} {p : Program} {l : Launch} {e : Env} {R : Room} {s : State} {m : MethodId} {args : Array Value} {below : List Frame} {meth : Method} {c : Code} {H : Heap} {locs : List Loc} {cells slots : Nat} {Q : State → Prop} {pc : Nat} {ls : Array Slot} {rest st0 : List Value} {us us' us2 uc uc' : List va_W} {is : List Nat} {a : Array Value} {u u' u1 : va_W}
theorem g_copy (C : MC own cc nL rt G A p s m args meth c) (h : HP G A s us H locs) (hsize : ls.size = nL) {index : Nat} (hl1 : Cond.methodLink own index arraycopyName ∈ gt) (hl2 : Cond.native arraycopyName ∈ gt) (hl3 : Cond.static arraycopyName ∈ gt) (hl4 : Cond.initialized "java/lang/System" ∈ gt)
    (i0 j0 i1 j1 : Nat) (hu0 : us[i0]? = some u1) (hu : us[i1]? = some u) {a0 a1 n0 n1 : Nat} {f g : Nat → Int32} (hc0 : u1[j0]? = some (a0, .inl (G.2.1 0, n0, .inl f))) (hc1 : u[j1]? = some (a1, .inl (G.2.1 0, n1, .inl g)))
    {sp dp n : Int32} (x y z : Nat) (hxyz : sp = nI x ∧ dp = nI y ∧ n = nI z ∧ x < 1000 ∧ y < 1000 ∧ z < 1000) (h4 : x + z ≤ n0) (h5 : y + z ≤ n1) (hframes : 1 ≤ R.frames) (hlocals : (rest.map fun v => v.category).sum + (nativeFrameWords "java/lang/System" "arraycopy" 5 + 11) ≤ R.locals) (hdg : decode cc pc = .ok (.invokestatic index, 3)) (hu' : u.set j1 (a1, .inl (G.2.1 0, n1, .inl (va_cpy f g x y z))) = u') (hus : us.set i1 u' = us')
    (kk : ∀ (H1 : Heap) (locs1 : List Loc), HP G A s us' H1 locs1 → W p l e R s m args below meth c H1 locs1 cells slots Q (F0 m (pc + 3) ls rest)) : W p l e R s m args below meth c H locs cells slots Q (F0 m pc ls (.int n :: .int dp :: .ref a1 :: .int sp :: .ref a0 :: rest)) := by
  obtain ⟨e1, e2, e3, b1, b2, b3⟩ := hxyz
  obtain ⟨q0, hq0, -⟩ := fl_at us i0 j0 u1 _ hu0 hc0
  obtain ⟨q1, hq1, hset⟩ := fl_at us i1 j1 u _ hu hc1
  have c1 : sp.toNatClampNeg = x := by rw [e1]; exact nI_clamp (by omega)
  have c2 : dp.toNatClampNeg = y := by rw [e2]; exact nI_clamp (by omega)
  have c3 : n.toNatClampNeg = z := by rw [e3]; exact nI_clamp (by omega)
  refine va_copyi C.hx C.hb (C.hml.trans hsize.symm) C.hown (C.hts _ hl1) (C.hts _ hl2) (C.hts _ hl3) (C.hts _ hl4) C.hK h.1 h.2.1 h.2.2 q0 q1 0 0 (ty := .int) hq0 hq1 rfl rfl rfl (by rw [e1]; exact nI_pos (by omega)) (by rw [e2]; exact nI_pos (by omega)) (by rw [e3]; exact nI_pos (by omega)) (by rw [c1, c3]; exact h4) (by rw [c2, c3]; exact h5) (fun _ _ => rfl) hframes hlocals hdg (fun H1 locs1 g1 g2 g3 => kk H1 locs1 ?_)
  rw [c1, c2, c3, hset, hu', hus] at g1 g2
  exact ⟨g1, g2, g3⟩
theorem g_zast (C : MC own cc nL rt G A p s m args meth c) (h : HP G A s us H locs) (i j : Nat) (hu : us[i]? = some u) {a n : Nat} {f : Nat → Int32} (hc : u[j]? = some (a, .inl (G.2.1 1, n, .inl f))) {x y : Int32} {b : Bool} (hb : y = b2i b) (hin : vp_in x n) (hdg : decode cc pc = .ok (.bastore, 1)) (hu' : u.set j (a, .inl (G.2.1 1, n, .inl (upd f x.toNatClampNeg y))) = u') (hus : us.set i u' = us')
    (kk : ∀ (H1 : Heap) (locs1 : List Loc), HP G A s us' H1 locs1 → W p l e R s m args below meth c H1 locs1 cells slots Q (F0 m (pc + 1) ls rest)) : W p l e R s m args below meth c H locs cells slots Q (F0 m pc ls (.int y :: .int x :: .ref a :: rest)) := by
  obtain ⟨q0, hq, hset⟩ := fl_at us i j u _ hu hc
  have hy : vp_nar .boolean y = y := by rw [hb]; cases b <;> rfl
  refine va_zast C.hx C.hb C.hK h.1 h.2.1 h.2.2 q0 1 hq rfl hin hdg (fun H1 locs1 g1 g2 g3 => kk H1 locs1 ?_)
  rw [hy, hset, hu', hus] at g1 g2
  exact ⟨g1, g2, g3⟩
def TF (own : String) (index : Nat) (y : MethodName) (bytes : ByteArray) (maxL : Nat) (ret : Option FieldType) (n : Nat) : Prop := (y.cls ≠ "java/lang/invoke/MethodHandle" ∧ y.cls ≠ "java/lang/invoke/VarHandle" ∧ (parseMethodDescriptor y.desc).map (fun d => d.parameters.length) = some n) ∧ GoodIn gt (va_wsS own index y (wdm y bytes maxL ret))
variable {y : MethodName} {bytes : ByteArray} {maxL index n ci d dd b : Nat} {ret : Option FieldType} {As : List Value} {Qc : Array Value → State → Outcome → State → Prop} {free : Addr → Prop}
theorem g_runT (C : MC own cc nL rt G A p s m args meth c) (h : HP G A s us H locs) (hn : va_nd is = true) (hC : is.map (fun i => us[i]?) = uc.map some) (hM : Met l y (wdm y bytes maxL ret) (rmm d) (va_Pc As (CP G uc H.size)) Qc 0 0 free) (sf : TF own index y bytes maxL ret n) (hsize : ls.size = nL) (hln : As.length = n) (hst : st0 = As.reverse ++ rest) (hW : (rest.map fun v => v.category).sum ≤ 8) (hdg : decode cc pc = .ok (.invokestatic index, 3)) (hR : d + 1 ≤ R.frames ∧ 8 + (maxL + 11) + 60 * d ≤ R.locals) (hf : cells ≤ R.cells ∧ slots ≤ R.slots) :
    va_Run p l e R s m args below meth c H locs cells slots 0 0 (F0 m pc ls st0) rest (Qc As.toArray) free :=
  va_runS C.fix hM (va_cwS n C.hts sf.2 rfl rfl rfl sf.1 hR) ⟨CP.blind, g_pre C h hn hC⟩ rfl hln hsize hst (lv_room hW) hdg hf
theorem g_max (C : MC own cc nL rt G A p s m args meth c) (hsize : ls.size = nL) {index : Nat} {x y v : Int32} (hl1 : Cond.methodLink own index Lib.Math.max.name ∈ gt) (hl2 : Cond.static Lib.Math.max.name ∈ gt) (hl3 : Cond.initialized "java/lang/Math" ∈ gt) (hl4 : Cond.code Lib.Math.max.name Lib.Math.max.code 2 (some .int) ∈ gt) (hframes : 1 ≤ R.frames) (hlocals : (rest.map fun v => v.category).sum + 13 ≤ R.locals) (hf : cells ≤ R.cells ∧ slots ≤ R.slots) (hdg : decode cc pc = .ok (.invokestatic index, 3)) (hv : (if x < y then y else x) = v)
    (kk : W p l e R s m args below meth c H locs cells slots Q (F0 m (pc + 3) ls (.int v :: rest))) : W p l e R s m args below meth c H locs cells slots Q (F0 m pc ls (.int y :: .int x :: rest)) := by
  subst hv
  exact va_mmax C.hx C.hb (C.hml.trans hsize.symm) C.hown (C.hts _ hl1) (C.hts _ hl2) (C.hts _ hl3) (C.hts _ hl4) hframes hlocals hf.1 hf.2 hdg kk
theorem g_min (C : MC own cc nL rt G A p s m args meth c) (hsize : ls.size = nL) {index : Nat} {x y v : Int32} (hl1 : Cond.methodLink own index Lib.Math.min.name ∈ gt) (hl2 : Cond.static Lib.Math.min.name ∈ gt) (hl3 : Cond.initialized "java/lang/Math" ∈ gt) (hl4 : Cond.code Lib.Math.min.name Lib.Math.min.code 2 (some .int) ∈ gt) (hframes : 1 ≤ R.frames) (hlocals : (rest.map fun v => v.category).sum + 13 ≤ R.locals) (hf : cells ≤ R.cells ∧ slots ≤ R.slots) (hdg : decode cc pc = .ok (.invokestatic index, 3)) (hv : (if y < x then y else x) = v)
    (kk : W p l e R s m args below meth c H locs cells slots Q (F0 m (pc + 3) ls (.int v :: rest))) : W p l e R s m args below meth c H locs cells slots Q (F0 m pc ls (.int y :: .int x :: rest)) := by
  subst hv
  exact va_mmin C.hx C.hb (C.hml.trans hsize.symm) C.hown (C.hts _ hl1) (C.hts _ hl2) (C.hts _ hl3) (C.hts _ hl4) hframes hlocals hf.1 hf.2 hdg kk
theorem g_abs (C : MC own cc nL rt G A p s m args meth c) (hsize : ls.size = nL) {index : Nat} {x v : Int32} (hl1 : Cond.methodLink own index Lib.Math.abs.name ∈ gt) (hl2 : Cond.static Lib.Math.abs.name ∈ gt) (hl3 : Cond.initialized "java/lang/Math" ∈ gt) (hl4 : Cond.code Lib.Math.abs.name Lib.Math.abs.code 1 (some .int) ∈ gt) (hframes : 1 ≤ R.frames) (hlocals : (rest.map fun v => v.category).sum + 13 ≤ R.locals) (hf : cells ≤ R.cells ∧ slots ≤ R.slots) (hdg : decode cc pc = .ok (.invokestatic index, 3)) (hv : (if 0 ≤ x then x else 0 - x) = v)
    (kk : W p l e R s m args below meth c H locs cells slots Q (F0 m (pc + 3) ls (.int v :: rest))) : W p l e R s m args below meth c H locs cells slots Q (F0 m pc ls (.int x :: rest)) := by
  subst hv
  exact va_mabs C.hx C.hb (C.hml.trans hsize.symm) C.hown (C.hts _ hl1) (C.hts _ hl2) (C.hts _ hl3) (C.hts _ hl4) hframes hlocals hf.1 hf.2 hdg kk
/-- a call of an overriding method, through the name of the class that told it first -/
def UF (own : String) (index ci : Nat) (x y : MethodName) (bytes : ByteArray) (maxL : Nat) (ret : Option FieldType) (n : Nat) : Prop := ∃ (T : u_T) (N : Nat) (owner : String) (b0 : ByteArray) (m0 : Nat) (r0 : Option FieldType), vwCl[ci]? = some (y.cls, T, N) ∧ GoodIn gt (va_wsO own index y.cls owner x y (wdm y bytes maxL ret)) ∧ Cond.code ⟨owner, x.name, x.desc⟩ b0 m0 r0 ∈ gt ∧ (owner ≠ "java/lang/invoke/MethodHandle" ∧ owner ≠ "java/lang/invoke/VarHandle" ∧ (parseMethodDescriptor x.desc).map (fun d => d.parameters.length) = some n)
theorem g_runU {x : MethodName} (C : MC own cc nL rt G A p s m args meth c) (h : HP G A s us H locs) (hn : va_nd is = true) (hC : is.map (fun i => us[i]?) = uc.map some) (hM : Met l y (wdm y bytes maxL ret) (rmm d) (va_Pc (.ref b :: As) (CP G uc H.size)) Qc 0 0 free) (uf : UF own index ci x y bytes maxL ret n) (i j : Nat) {u : va_W} (hu : us[i]? = some u) {fs : List Value} (hc : u[j]? = some (b, .inr (ci, fs))) (hsize : ls.size = nL) (hln : As.length = n) (hst : st0 = As.reverse ++ .ref b :: rest) (hW : (rest.map fun v => v.category).sum ≤ 8) (hdg : decode cc pc = .ok (.invokevirtual index, 3)) (hR : d + 1 ≤ R.frames ∧ 8 + (maxL + 11) + 60 * d ≤ R.locals) (hf : cells ≤ R.cells ∧ slots ≤ R.slots) :
    va_Run p l e R s m args below meth c H locs cells slots 0 0 (F0 m pc ls st0) rest (Qc (Value.ref b :: As).toArray) free := by
  obtain ⟨T, N, owner, b0, m0, r0, f1, f2, f3, f4⟩ := uf
  obtain ⟨q0, hq, -⟩ := fl_at us i j u _ hu hc
  exact va_runU C.fix hM (va_cwO n C.hts f2 rfl rfl rfl f3 f4 hR) ⟨CP.blind, va_recv C.hK h.1 f1 hq, g_pre C h hn hC⟩ rfl hln hsize hst (lv_room hW) hdg hf
/-- a call of the class above, on an object of any class below -/
def PF (own : String) (index : Nat) (y : MethodName) (bytes : ByteArray) (maxL : Nat) (ret : Option FieldType) (n : Nat) : Prop := GoodIn gt (va_wsSU own index y (wdm y bytes maxL ret)) ∧ (y.name ≠ "<init>" ∧ (parseMethodDescriptor y.desc).map (fun d => d.parameters.length) = some n)
theorem g_runP (C : MC own cc nL rt G A p s m args meth c) (h : HP G A s us H locs) (hn : va_nd is = true) (hC : is.map (fun i => us[i]?) = uc.map some) (hM : Met l y (wdm y bytes maxL ret) (rmm d) (va_Pc (.ref b :: As) (CP G uc H.size)) Qc 0 0 free) (pf : PF own index y bytes maxL ret n) (i j : Nat) {u : va_W} (hu : us[i]? = some u) {fs : List Value} {q : vw_C} (hq : vwCl[ci]? = some q) (hc : u[j]? = some (b, .inr (ci, fs))) (hsize : ls.size = nL) (hln : As.length = n) (hst : st0 = As.reverse ++ .ref b :: rest) (hW : (rest.map fun v => v.category).sum ≤ 8) (hdg : decode cc pc = .ok (.invokespecial index, 3)) (hR : d + 1 ≤ R.frames ∧ 8 + (maxL + 11) + 60 * d ≤ R.locals) (hf : cells ≤ R.cells ∧ slots ≤ R.slots) :
    va_Run p l e R s m args below meth c H locs cells slots 0 0 (F0 m pc ls st0) rest (Qc (Value.ref b :: As).toArray) free := by
  obtain ⟨q0, hq0, -⟩ := fl_at us i j u _ hu hc
  exact va_runSU (C.hK.1 ci q hq).2 C.fix hM (va_cwSU n C.hts pf.1 rfl rfl rfl pf.2 hR) ⟨CP.blind, va_recv C.hK h.1 hq hq0, g_pre C h hn hC⟩ rfl hln hsize hst (lv_room hW) hdg hf
theorem g_ret_a {cn : String} (C : MC own cc nL (some (.object cn)) G A p s m args meth c) (h : HP G A s us H locs) {x r : Nat} (hr : x = r) (hus : us = us') (hdg : decode cc pc = .ok (.areturn, 1)) : W p l e R s m args below meth c H locs 0 0 (QA below G A args s r us') (F0 m pc ls [.ref x]) := by
  subst hr; subst hus
  exact W.aret C.hx C.hb C.hr (Or.inl ⟨_, rfl⟩) (Or.inr ⟨_, rfl⟩) (fun t ht _ => ⟨⟨(), x, rfl, trivial, rfl, at_H ht h.1⟩, h.2.2.F ht⟩) h.2.2.2.2 hdg C.hk
end KMORE
theorem TF.mk {own : String} {index : Nat} {y : MethodName} {bytes : ByteArray} {maxL : Nat} {ret : Option FieldType} {n : Nat} (hd : y.cls ≠ "java/lang/invoke/MethodHandle" ∧ y.cls ≠ "java/lang/invoke/VarHandle" ∧ (parseMethodDescriptor y.desc).map (fun d => d.parameters.length) = some n) (h1 : Cond.methodLink own index y ∈ gt) (h2 : Cond.static y ∈ gt) (h4 : Cond.initialized y.cls ∈ gt) (h5 : Cond.code y bytes maxL ret ∈ gt) : TF own index y bytes maxL ret n :=
  ⟨hd, goodIn_gtA (fun z hz => by
    simp only [List.mem_cons, List.not_mem_nil, or_false] at hz
    rcases hz with rfl | rfl | rfl <;> assumption) h5⟩
end
section
def uX0 (G : GG) (o : Nat) (a : Nat → Nat) (v : US) : va_W := [(o, .inr (0, [.ref (a 0), .int (v.1 1), .ref (a 2), .ref (a 3), .ref (a 4), .int (v.1 5), .ref (a 6), .ref (a 7), .ref (a 8), .ref (a 9), .ref (a 10), .ref (a 11), .ref (a 12), .int (v.1 13), .int (v.1 14), .ref (a 15)])), (a 2, .inl (G.2.1 0, 5, .inl (v.2.2 2))), (a 3, .inl (G.2.1 0, 5, .inl (v.2.2 3))), (a 4, .inl (G.2.1 0, 5, .inl (v.2.2 4))), (a 6, .inl (G.2.1 0, 5, .inl (v.2.2 6))), (a 7, .inl (G.2.1 0, 5, .inl (v.2.2 7))), (a 8, .inl (G.2.1 0, 32, .inl (v.2.2 8))), (a 9, .inl (G.2.1 0, 32, .inl (v.2.2 9))), (a 10, .inl (G.2.1 0, 32, .inl (v.2.2 10))), (a 11, .inl (G.2.1 0, 32, .inl (v.2.2 11))), (a 12, .inl (G.2.1 0, 32, .inl (v.2.2 12))), (a 15, .inl (G.2.1 0, 32, .inl (v.2.2 15)))]
def uX5 (G : GG) (o : Nat) (a : Nat → Nat) (v : US) : va_W := [(o, .inr (5, [.ref (a 0), .int (v.1 1), .int (v.1 2), .ref (a 3), .int (v.1 4), .int (v.1 5), .int (v.1 6), .int (v.1 7), .ref (a 8)])), (a 8, .inl (G.2.1 0, 4, .inl (v.2.2 8)))]
def uX6 (G : GG) (o : Nat) (a : Nat → Nat) (v : US) : va_W := [(o, .inr (6, [.ref (a 0), .int (v.1 1), .int (v.1 2), .ref (a 3), .ref (a 4), .ref (a 5), .ref (a 6), .ref (a 7), .ref (a 8)])), (a 3, .inl (G.2.1 0, 4, .inl (v.2.2 3))), (a 4, .inl (G.2.1 1, 4, .inl (v.2.2 4))), (a 5, .inl (G.2.1 0, 20, .inl (v.2.2 5))), (a 6, .inl (G.2.1 0, 25, .inl (v.2.2 6))), (a 7, .inl (G.2.1 0, 25, .inl (v.2.2 7))), (a 8, .inl (G.2.1 0, 5, .inl (v.2.2 8)))]
def uX8 (_ : GG) (o : Nat) (a : Nat → Nat) (v : US) : va_W := [(o, .inr (8, [.ref (a 0), .int (v.1 1), .int (v.1 2), .int (v.1 3), .int (v.1 4), .int (v.1 5), .int (v.1 6), .int (v.1 7)]))]
def uX9 (G : GG) (o : Nat) (a : Nat → Nat) (v : US) : va_W := [(o, .inr (9, [.int (v.1 0), .ref (a 1), .ref (a 2), .ref (a 3), .ref (a 4), .int (v.1 5), .int (v.1 6), .int (v.1 7), .int (v.1 8), .ref (a 9), .ref (a 10), .int (v.1 11), .ref (a 12), .ref (a 13), .ref (a 14), .int (v.1 15), .ref (a 16)])), (a 1, .inl (G.2.1 0, 5, .inl (v.2.2 1))), (a 2, .inl (G.2.1 0, 5, .inl (v.2.2 2))), (a 3, .inl (G.2.1 0, 5, .inl (v.2.2 3))), (a 4, .inl (G.2.1 0, 5, .inl (v.2.2 4))), (a 9, .inl (G.2.1 0, 5, .inl (v.2.2 9))), (a 10, .inl (G.2.1 0, 5, .inl (v.2.2 10))), (a 12, .inl (G.2.1 0, 4, .inl (v.2.2 12))), (a 13, .inl (G.2.1 0, 4, .inl (v.2.2 13))), (a 14, .inl (G.2.1 0, 4, .inl (v.2.2 14))), (a 16, .inl (G.2.1 0, 10, .inl (v.2.2 16)))]
def uX11 (_ : GG) (o : Nat) (a : Nat → Nat) (v : US) : va_W := [(o, .inr (11, [.ref (a 0), .ref (a 1), .ref (a 2), .int (v.1 3), .long (v.2.1 4), .long (v.2.1 5), .int (v.1 6), .int (v.1 7), .int (v.1 8), .ref (a 9), .ref (a 10), .ref (a 11), .ref (a 12)]))]
def uX12 (G : GG) (o : Nat) (a : Nat → Nat) (v : US) : va_W := [(o, .inr (12, [.ref (a 0), .ref (a 1), .ref (a 2), .ref (a 3), .long (v.2.1 4), .long (v.2.1 5), .ref (a 6), .int (v.1 7), .int (v.1 8), .int (v.1 9), .int (v.1 10), .int (v.1 11), .ref (a 12), .ref (a 13), .int (v.1 14), .ref (a 15), .ref (a 16), .int (v.1 17), .int (v.1 18), .int (v.1 19), .int (v.1 20), .int (v.1 21), .ref (a 22), .ref (a 23)])), (a 1, .inl (G.2.1 0, 126, .inl (v.2.2 1))), (a 2, .inl (G.2.1 1, 2, .inl (v.2.2 2))), (a 3, .inl (G.2.1 0, 3, .inl (v.2.2 3))), (a 6, .inl (G.2.1 0, 5, .inl (v.2.2 6))), (a 12, .inl (G.2.1 0, 5, .inl (v.2.2 12))), (a 13, .inl (G.2.1 0, 5, .inl (v.2.2 13))), (a 15, .inl (G.2.1 0, 32, .inl (v.2.2 15))), (a 16, .inl (G.2.1 0, 200, .inl (v.2.2 16))), (a 23, .inl (G.2.1 0, 4, .inl (v.2.2 23)))]
def uX2 (_ : GG) (o : Nat) (a : Nat → Nat) : va_W := [(o, .inr (2, [.ref (a 0), .ref (a 1), .ref (a 2), .ref (a 3), .ref (a 4)])), (a 0, .inr (1, [])), (a 1, .inr (3, [])), (a 2, .inr (4, [])), (a 3, .inr (10, [])), (a 4, .inr (7, []))]
def uA (G : GG) (n o : Nat) (f : Nat → Int32) : va_W := [(o, .inl (G.2.1 0, n, .inl f))]
theorem fc_X0 : FC 0 RX0 TX0 16 tyX0 := ⟨rfl, fun w hw => by
  have h : ∀ w ∈ u_ws RX0 TX0 16, w ∈ tables_1 ∧ goodWord w = true := by decide +kernel
  exact List.mem_filter.mpr ⟨List.mem_append_right _ (h w hw).1, (h w hw).2⟩, tyX0_ok, nmX0⟩
theorem fc_X1 : FC 1 RX1 TX1 0 tyX1 := ⟨rfl, fun w hw => by
  have h : ∀ w ∈ u_ws RX1 TX1 0, w ∈ tables_1 ∧ goodWord w = true := by decide +kernel
  exact List.mem_filter.mpr ⟨List.mem_append_right _ (h w hw).1, (h w hw).2⟩, tyX1_ok, nmX1⟩
theorem fc_X2 : FC 2 RX2 TX2 5 tyX2 := ⟨rfl, fun w hw => by
  have h : ∀ w ∈ u_ws RX2 TX2 5, w ∈ tables_1 ∧ goodWord w = true := by decide +kernel
  exact List.mem_filter.mpr ⟨List.mem_append_right _ (h w hw).1, (h w hw).2⟩, tyX2_ok, nmX2⟩
theorem fc_X3 : FC 3 RX3 TX3 0 tyX3 := ⟨rfl, fun w hw => by
  have h : ∀ w ∈ u_ws RX3 TX3 0, w ∈ tables_1 ∧ goodWord w = true := by decide +kernel
  exact List.mem_filter.mpr ⟨List.mem_append_right _ (h w hw).1, (h w hw).2⟩, tyX3_ok, nmX3⟩
theorem fc_X4 : FC 4 RX4 TX4 0 tyX4 := ⟨rfl, fun w hw => by
  have h : ∀ w ∈ u_ws RX4 TX4 0, w ∈ tables_1 ∧ goodWord w = true := by decide +kernel
  exact List.mem_filter.mpr ⟨List.mem_append_right _ (h w hw).1, (h w hw).2⟩, tyX4_ok, nmX4⟩
theorem fc_X5 : FC 5 RX5 TX5 9 tyX5 := ⟨rfl, fun w hw => by
  have h : ∀ w ∈ u_ws RX5 TX5 9, w ∈ tables_1 ∧ goodWord w = true := by decide +kernel
  exact List.mem_filter.mpr ⟨List.mem_append_right _ (h w hw).1, (h w hw).2⟩, tyX5_ok, nmX5⟩
theorem fc_X6 : FC 6 RX6 TX6 9 tyX6 := ⟨rfl, fun w hw => by
  have h : ∀ w ∈ u_ws RX6 TX6 9, w ∈ tables_1 ∧ goodWord w = true := by decide +kernel
  exact List.mem_filter.mpr ⟨List.mem_append_right _ (h w hw).1, (h w hw).2⟩, tyX6_ok, nmX6⟩
theorem fc_X7 : FC 7 RX7 TX7 0 tyX7 := ⟨rfl, fun w hw => by
  have h : ∀ w ∈ u_ws RX7 TX7 0, w ∈ tables_1 ∧ goodWord w = true := by decide +kernel
  exact List.mem_filter.mpr ⟨List.mem_append_right _ (h w hw).1, (h w hw).2⟩, tyX7_ok, nmX7⟩
theorem fc_X8 : FC 8 RX8 TX8 8 tyX8 := ⟨rfl, fun w hw => by
  have h : ∀ w ∈ u_ws RX8 TX8 8, w ∈ tables_1 ∧ goodWord w = true := by decide +kernel
  exact List.mem_filter.mpr ⟨List.mem_append_right _ (h w hw).1, (h w hw).2⟩, tyX8_ok, nmX8⟩
theorem fc_X9 : FC 9 RX9 TX9 17 tyX9 := ⟨rfl, fun w hw => by
  have h : ∀ w ∈ u_ws RX9 TX9 17, w ∈ tables_1 ∧ goodWord w = true := by decide +kernel
  exact List.mem_filter.mpr ⟨List.mem_append_right _ (h w hw).1, (h w hw).2⟩, tyX9_ok, nmX9⟩
theorem fc_X10 : FC 10 RX10 TX10 0 tyX10 := ⟨rfl, fun w hw => by
  have h : ∀ w ∈ u_ws RX10 TX10 0, w ∈ tables_1 ∧ goodWord w = true := by decide +kernel
  exact List.mem_filter.mpr ⟨List.mem_append_right _ (h w hw).1, (h w hw).2⟩, tyX10_ok, nmX10⟩
theorem fc_X11 : FC 11 RX11 TX11 13 tyX11 := ⟨rfl, fun w hw => by
  have h : ∀ w ∈ u_ws RX11 TX11 13, w ∈ tables_1 ∧ goodWord w = true := by decide +kernel
  exact List.mem_filter.mpr ⟨List.mem_append_right _ (h w hw).1, (h w hw).2⟩, tyX11_ok, nmX11⟩
theorem fc_X12 : FC 12 RX12 TX12 24 tyX12 := ⟨rfl, fun w hw => by
  have h : ∀ w ∈ u_ws RX12 TX12 24, w ∈ tables_1 ∧ goodWord w = true := by decide +kernel
  exact List.mem_filter.mpr ⟨List.mem_append_right _ (h w hw).1, (h w hw).2⟩, tyX12_ok, nmX12⟩
theorem fl_X11_12 : FL RX11 12 11 0 := FL.mk fc_X11 (by decide) (gt_of (w := .fieldLink RX11 12 "OneBell" "now" "LOneBell$Village;") 342 (by decide +kernel) rfl)
theorem fl_X11_16 : FL RX11 16 11 1 := FL.mk fc_X11 (by decide) (gt_of (w := .fieldLink RX11 16 "OneBell" "images" "[LOneBell$Village;") 343 (by decide +kernel) rfl)
theorem fl_X11_20 : FL RX11 20 11 2 := FL.mk fc_X11 (by decide) (gt_of (w := .fieldLink RX11 20 "OneBell" "text" "[I") 344 (by decide +kernel) rfl)
theorem fl_X11_24 : FL RX11 24 11 3 := FL.mk fc_X11 (by decide) (gt_of (w := .fieldLink RX11 24 "OneBell" "length" "I") 345 (by decide +kernel) rfl)
theorem fp_X11_24 : FP RX11 24 11 3 .int := FP.mk fc_X11 (by decide) (gt_of (w := .fieldLink RX11 24 "OneBell" "length" "I") 345 (by decide +kernel) rfl) rfl rfl
theorem fl_X11_28 : FL RX11 28 11 4 := FL.mk fc_X11 (by decide) (gt_of (w := .fieldLink RX11 28 "OneBell" "above" "J") 346 (by decide +kernel) rfl)
theorem fp_X11_28 : FP RX11 28 11 4 .long := FP.mk fc_X11 (by decide) (gt_of (w := .fieldLink RX11 28 "OneBell" "above" "J") 346 (by decide +kernel) rfl) rfl rfl
theorem fl_X11_32 : FL RX11 32 11 5 := FL.mk fc_X11 (by decide) (gt_of (w := .fieldLink RX11 32 "OneBell" "below" "J") 347 (by decide +kernel) rfl)
theorem fp_X11_32 : FP RX11 32 11 5 .long := FP.mk fc_X11 (by decide) (gt_of (w := .fieldLink RX11 32 "OneBell" "below" "J") 347 (by decide +kernel) rfl) rfl rfl
theorem fl_X11_35 : FL RX11 35 11 6 := FL.mk fc_X11 (by decide) (gt_of (w := .fieldLink RX11 35 "OneBell" "bads" "I") 348 (by decide +kernel) rfl)
theorem fp_X11_35 : FP RX11 35 11 6 .int := FP.mk fc_X11 (by decide) (gt_of (w := .fieldLink RX11 35 "OneBell" "bads" "I") 348 (by decide +kernel) rfl) rfl rfl
theorem fl_X11_38 : FL RX11 38 11 7 := FL.mk fc_X11 (by decide) (gt_of (w := .fieldLink RX11 38 "OneBell" "nos" "I") 349 (by decide +kernel) rfl)
theorem fp_X11_38 : FP RX11 38 11 7 .int := FP.mk fc_X11 (by decide) (gt_of (w := .fieldLink RX11 38 "OneBell" "nos" "I") 349 (by decide +kernel) rfl) rfl rfl
theorem fl_X11_41 : FL RX11 41 11 8 := FL.mk fc_X11 (by decide) (gt_of (w := .fieldLink RX11 41 "OneBell" "fulls" "I") 350 (by decide +kernel) rfl)
theorem fp_X11_41 : FP RX11 41 11 8 .int := FP.mk fc_X11 (by decide) (gt_of (w := .fieldLink RX11 41 "OneBell" "fulls" "I") 350 (by decide +kernel) rfl) rfl rfl
theorem fl_X11_52 : FL RX11 52 11 9 := FL.mk fc_X11 (by decide) (gt_of (w := .fieldLink RX11 52 "OneBell" "swing" "LOneBell$Swing;") 351 (by decide +kernel) rfl)
theorem fl_X11_61 : FL RX11 61 11 10 := FL.mk fc_X11 (by decide) (gt_of (w := .fieldLink RX11 61 "OneBell" "day" "LOneBell$Day;") 352 (by decide +kernel) rfl)
theorem fl_X11_68 : FL RX11 68 11 11 := FL.mk fc_X11 (by decide) (gt_of (w := .fieldLink RX11 68 "OneBell" "search" "LOneBell$SlackSearch;") 353 (by decide +kernel) rfl)
theorem fl_X11_75 : FL RX11 75 11 12 := FL.mk fc_X11 (by decide) (gt_of (w := .fieldLink RX11 75 "OneBell" "reader" "LOneBell$Reader;") 354 (by decide +kernel) rfl)
theorem fl_X11_87 : FL RX11 87 9 0 := FL.mk fc_X9 (by decide) (gt_of (w := .fieldLink RX11 87 "OneBell$Village" "things" "I") 38 (by decide +kernel) rfl)
theorem fp_X11_87 : FP RX11 87 9 0 .int := FP.mk fc_X9 (by decide) (gt_of (w := .fieldLink RX11 87 "OneBell$Village" "things" "I") 38 (by decide +kernel) rfl) rfl rfl
theorem fl_X11_102 : FL RX11 102 9 5 := FL.mk fc_X9 (by decide) (gt_of (w := .fieldLink RX11 102 "OneBell$Village" "whole" "I") 50 (by decide +kernel) rfl)
theorem fp_X11_102 : FP RX11 102 9 5 .int := FP.mk fc_X9 (by decide) (gt_of (w := .fieldLink RX11 102 "OneBell$Village" "whole" "I") 50 (by decide +kernel) rfl) rfl rfl
theorem fl_X11_112 : FL RX11 112 9 6 := FL.mk fc_X9 (by decide) (gt_of (w := .fieldLink RX11 112 "OneBell$Village" "damp" "I") 54 (by decide +kernel) rfl)
theorem fp_X11_112 : FP RX11 112 9 6 .int := FP.mk fc_X9 (by decide) (gt_of (w := .fieldLink RX11 112 "OneBell$Village" "damp" "I") 54 (by decide +kernel) rfl) rfl rfl
theorem fl_X11_119 : FL RX11 119 5 2 := FL.mk fc_X5 (by decide) (gt_of (w := .fieldLink RX11 119 "OneBell$Reader" "start" "I") 316 (by decide +kernel) rfl)
theorem fp_X11_119 : FP RX11 119 5 2 .int := FP.mk fc_X5 (by decide) (gt_of (w := .fieldLink RX11 119 "OneBell$Reader" "start" "I") 316 (by decide +kernel) rfl) rfl rfl
theorem fl_X11_122 : FL RX11 122 5 0 := FL.mk fc_X5 (by decide) (gt_of (w := .fieldLink RX11 122 "OneBell$Reader" "draft" "LOneBell$Village;") 312 (by decide +kernel) rfl)
theorem fl_X11_129 : FL RX11 129 5 1 := FL.mk fc_X5 (by decide) (gt_of (w := .fieldLink RX11 129 "OneBell$Reader" "items" "I") 314 (by decide +kernel) rfl)
theorem fp_X11_129 : FP RX11 129 5 1 .int := FP.mk fc_X5 (by decide) (gt_of (w := .fieldLink RX11 129 "OneBell$Reader" "items" "I") 314 (by decide +kernel) rfl) rfl rfl
theorem fl_X11_142 : FL RX11 142 9 7 := FL.mk fc_X9 (by decide) (gt_of (w := .fieldLink RX11 142 "OneBell$Village" "open" "I") 58 (by decide +kernel) rfl)
theorem fp_X11_142 : FP RX11 142 9 7 .int := FP.mk fc_X9 (by decide) (gt_of (w := .fieldLink RX11 142 "OneBell$Village" "open" "I") 58 (by decide +kernel) rfl) rfl rfl
theorem fl_X11_152 : FL RX11 152 9 15 := FL.mk fc_X9 (by decide) (gt_of (w := .fieldLink RX11 152 "OneBell$Village" "pasts" "I") 78 (by decide +kernel) rfl)
theorem fp_X11_152 : FP RX11 152 9 15 .int := FP.mk fc_X9 (by decide) (gt_of (w := .fieldLink RX11 152 "OneBell$Village" "pasts" "I") 78 (by decide +kernel) rfl) rfl rfl
theorem fl_X11_158 : FL RX11 158 9 8 := FL.mk fc_X9 (by decide) (gt_of (w := .fieldLink RX11 158 "OneBell$Village" "errands" "I") 62 (by decide +kernel) rfl)
theorem fp_X11_158 : FP RX11 158 9 8 .int := FP.mk fc_X9 (by decide) (gt_of (w := .fieldLink RX11 158 "OneBell$Village" "errands" "I") 62 (by decide +kernel) rfl) rfl rfl
theorem fl_X11_168 : FL RX11 168 0 5 := FL.mk fc_X0 (by decide) (gt_of (w := .fieldLink RX11 168 "OneBell$Day" "leastHarm" "I") 219 (by decide +kernel) rfl)
theorem fp_X11_168 : FP RX11 168 0 5 .int := FP.mk fc_X0 (by decide) (gt_of (w := .fieldLink RX11 168 "OneBell$Day" "leastHarm" "I") 219 (by decide +kernel) rfl) rfl rfl
theorem fl_X11_171 : FL RX11 171 0 6 := FL.mk fc_X0 (by decide) (gt_of (w := .fieldLink RX11 171 "OneBell$Day" "bestRow" "[I") 221 (by decide +kernel) rfl)
theorem fl_X11_180 : FL RX11 180 0 8 := FL.mk fc_X0 (by decide) (gt_of (w := .fieldLink RX11 180 "OneBell$Day" "steps" "[I") 224 (by decide +kernel) rfl)
theorem fl_X11_207 : FL RX11 207 9 11 := FL.mk fc_X9 (by decide) (gt_of (w := .fieldLink RX11 207 "OneBell$Village" "rules" "I") 70 (by decide +kernel) rfl)
theorem fp_X11_207 : FP RX11 207 9 11 .int := FP.mk fc_X9 (by decide) (gt_of (w := .fieldLink RX11 207 "OneBell$Village" "rules" "I") 70 (by decide +kernel) rfl) rfl rfl
theorem fl_X11_220 : FL RX11 220 6 8 := FL.mk fc_X6 (by decide) (gt_of (w := .fieldLink RX11 220 "OneBell$SlackSearch" "row" "[I") 282 (by decide +kernel) rfl)
theorem fl_X11_232 : FL RX11 232 0 13 := FL.mk fc_X0 (by decide) (gt_of (w := .fieldLink RX11 232 "OneBell$Day" "shareAbove" "I") 230 (by decide +kernel) rfl)
theorem fp_X11_232 : FP RX11 232 0 13 .int := FP.mk fc_X0 (by decide) (gt_of (w := .fieldLink RX11 232 "OneBell$Day" "shareAbove" "I") 230 (by decide +kernel) rfl) rfl rfl
theorem fl_X11_235 : FL RX11 235 0 14 := FL.mk fc_X0 (by decide) (gt_of (w := .fieldLink RX11 235 "OneBell$Day" "shareBelow" "I") 232 (by decide +kernel) rfl)
theorem fp_X11_235 : FP RX11 235 0 14 .int := FP.mk fc_X0 (by decide) (gt_of (w := .fieldLink RX11 235 "OneBell$Day" "shareBelow" "I") 232 (by decide +kernel) rfl) rfl rfl
theorem fl_X0_9 : FL RX0 9 0 1 := FL.mk fc_X0 (by decide) (gt_of (w := .fieldLink RX0 9 "OneBell$Day" "errands" "I") 214 (by decide +kernel) rfl)
theorem fp_X0_9 : FP RX0 9 0 1 .int := FP.mk fc_X0 (by decide) (gt_of (w := .fieldLink RX0 9 "OneBell$Day" "errands" "I") 214 (by decide +kernel) rfl) rfl rfl
theorem fl_X0_15 : FL RX0 15 0 2 := FL.mk fc_X0 (by decide) (gt_of (w := .fieldLink RX0 15 "OneBell$Day" "counting" "[I") 215 (by decide +kernel) rfl)
theorem fl_X0_19 : FL RX0 19 0 3 := FL.mk fc_X0 (by decide) (gt_of (w := .fieldLink RX0 19 "OneBell$Day" "turned" "[I") 216 (by decide +kernel) rfl)
theorem fl_X0_22 : FL RX0 22 0 4 := FL.mk fc_X0 (by decide) (gt_of (w := .fieldLink RX0 22 "OneBell$Day" "rings" "[I") 217 (by decide +kernel) rfl)
theorem fl_X0_25 : FL RX0 25 0 5 := FL.mk fc_X0 (by decide) (gt_of (w := .fieldLink RX0 25 "OneBell$Day" "leastHarm" "I") 218 (by decide +kernel) rfl)
theorem fp_X0_25 : FP RX0 25 0 5 .int := FP.mk fc_X0 (by decide) (gt_of (w := .fieldLink RX0 25 "OneBell$Day" "leastHarm" "I") 218 (by decide +kernel) rfl) rfl rfl
theorem fl_X0_28 : FL RX0 28 0 6 := FL.mk fc_X0 (by decide) (gt_of (w := .fieldLink RX0 28 "OneBell$Day" "bestRow" "[I") 220 (by decide +kernel) rfl)
theorem fl_X0_31 : FL RX0 31 0 7 := FL.mk fc_X0 (by decide) (gt_of (w := .fieldLink RX0 31 "OneBell$Day" "row" "[I") 222 (by decide +kernel) rfl)
theorem fl_X0_34 : FL RX0 34 0 8 := FL.mk fc_X0 (by decide) (gt_of (w := .fieldLink RX0 34 "OneBell$Day" "steps" "[I") 223 (by decide +kernel) rfl)
theorem fl_X0_37 : FL RX0 37 0 9 := FL.mk fc_X0 (by decide) (gt_of (w := .fieldLink RX0 37 "OneBell$Day" "cameFrom" "[I") 225 (by decide +kernel) rfl)
theorem fl_X0_40 : FL RX0 40 0 10 := FL.mk fc_X0 (by decide) (gt_of (w := .fieldLink RX0 40 "OneBell$Day" "cameBy" "[I") 226 (by decide +kernel) rfl)
theorem fl_X0_43 : FL RX0 43 0 11 := FL.mk fc_X0 (by decide) (gt_of (w := .fieldLink RX0 43 "OneBell$Day" "waiting" "[I") 227 (by decide +kernel) rfl)
theorem fl_X0_46 : FL RX0 46 0 12 := FL.mk fc_X0 (by decide) (gt_of (w := .fieldLink RX0 46 "OneBell$Day" "ends" "[I") 228 (by decide +kernel) rfl)
theorem fl_X0_49 : FL RX0 49 0 13 := FL.mk fc_X0 (by decide) (gt_of (w := .fieldLink RX0 49 "OneBell$Day" "shareAbove" "I") 229 (by decide +kernel) rfl)
theorem fp_X0_49 : FP RX0 49 0 13 .int := FP.mk fc_X0 (by decide) (gt_of (w := .fieldLink RX0 49 "OneBell$Day" "shareAbove" "I") 229 (by decide +kernel) rfl) rfl rfl
theorem fl_X0_52 : FL RX0 52 0 14 := FL.mk fc_X0 (by decide) (gt_of (w := .fieldLink RX0 52 "OneBell$Day" "shareBelow" "I") 231 (by decide +kernel) rfl)
theorem fp_X0_52 : FP RX0 52 0 14 .int := FP.mk fc_X0 (by decide) (gt_of (w := .fieldLink RX0 52 "OneBell$Day" "shareBelow" "I") 231 (by decide +kernel) rfl) rfl rfl
theorem fl_X0_55 : FL RX0 55 0 15 := FL.mk fc_X0 (by decide) (gt_of (w := .fieldLink RX0 55 "OneBell$Day" "harmOfRopes" "[I") 233 (by decide +kernel) rfl)
theorem fl_X0_58 : FL RX0 58 0 0 := FL.mk fc_X0 (by decide) (gt_of (w := .fieldLink RX0 58 "OneBell$Day" "swing" "LOneBell$Swing;") 213 (by decide +kernel) rfl)
theorem fl_X0_62 : FL RX0 62 9 8 := FL.mk fc_X9 (by decide) (gt_of (w := .fieldLink RX0 62 "OneBell$Village" "errands" "I") 60 (by decide +kernel) rfl)
theorem fp_X0_62 : FP RX0 62 9 8 .int := FP.mk fc_X9 (by decide) (gt_of (w := .fieldLink RX0 62 "OneBell$Village" "errands" "I") 60 (by decide +kernel) rfl) rfl rfl
theorem fl_X0_65 : FL RX0 65 9 9 := FL.mk fc_X9 (by decide) (gt_of (w := .fieldLink RX0 65 "OneBell$Village" "errandThing" "[I") 64 (by decide +kernel) rfl)
theorem fl_X0_68 : FL RX0 68 9 10 := FL.mk fc_X9 (by decide) (gt_of (w := .fieldLink RX0 68 "OneBell$Village" "errandInches" "[I") 66 (by decide +kernel) rfl)
theorem fl_X0_77 : FL RX0 77 8 6 := FL.mk fc_X8 (by decide) (gt_of (w := .fieldLink RX0 77 "OneBell$Swing" "counting" "I") 187 (by decide +kernel) rfl)
theorem fp_X0_77 : FP RX0 77 8 6 .int := FP.mk fc_X8 (by decide) (gt_of (w := .fieldLink RX0 77 "OneBell$Swing" "counting" "I") 187 (by decide +kernel) rfl) rfl rfl
theorem fl_X0_79 : FL RX0 79 8 7 := FL.mk fc_X8 (by decide) (gt_of (w := .fieldLink RX0 79 "OneBell$Swing" "turned" "I") 189 (by decide +kernel) rfl)
theorem fp_X0_79 : FP RX0 79 8 7 .int := FP.mk fc_X8 (by decide) (gt_of (w := .fieldLink RX0 79 "OneBell$Swing" "turned" "I") 189 (by decide +kernel) rfl) rfl rfl
theorem fl_X0_84 : FL RX0 84 9 5 := FL.mk fc_X9 (by decide) (gt_of (w := .fieldLink RX0 84 "OneBell$Village" "whole" "I") 51 (by decide +kernel) rfl)
theorem fp_X0_84 : FP RX0 84 9 5 .int := FP.mk fc_X9 (by decide) (gt_of (w := .fieldLink RX0 84 "OneBell$Village" "whole" "I") 51 (by decide +kernel) rfl) rfl rfl
theorem fl_X0_92 : FL RX0 92 9 7 := FL.mk fc_X9 (by decide) (gt_of (w := .fieldLink RX0 92 "OneBell$Village" "open" "I") 57 (by decide +kernel) rfl)
theorem fp_X0_92 : FP RX0 92 9 7 .int := FP.mk fc_X9 (by decide) (gt_of (w := .fieldLink RX0 92 "OneBell$Village" "open" "I") 57 (by decide +kernel) rfl) rfl rfl
theorem fl_X0_117 : FL RX0 117 9 0 := FL.mk fc_X9 (by decide) (gt_of (w := .fieldLink RX0 117 "OneBell$Village" "things" "I") 40 (by decide +kernel) rfl)
theorem fp_X0_117 : FP RX0 117 9 0 .int := FP.mk fc_X9 (by decide) (gt_of (w := .fieldLink RX0 117 "OneBell$Village" "things" "I") 40 (by decide +kernel) rfl) rfl rfl
theorem fl_X2_10 : FL RX2 10 2 0 := FL.mk fc_X2 (by decide) (gt_of (w := .fieldLink RX2 10 "OneBell$Kinds" "door" "LOneBell$Door;") 158 (by decide +kernel) rfl)
theorem fl_X2_19 : FL RX2 19 2 1 := FL.mk fc_X2 (by decide) (gt_of (w := .fieldLink RX2 19 "OneBell$Kinds" "latch" "LOneBell$Latch;") 159 (by decide +kernel) rfl)
theorem fl_X2_26 : FL RX2 26 2 2 := FL.mk fc_X2 (by decide) (gt_of (w := .fieldLink RX2 26 "OneBell$Kinds" "lid" "LOneBell$Lid;") 160 (by decide +kernel) rfl)
theorem fl_X2_33 : FL RX2 33 2 3 := FL.mk fc_X2 (by decide) (gt_of (w := .fieldLink RX2 33 "OneBell$Kinds" "wheel" "LOneBell$Wheel;") 161 (by decide +kernel) rfl)
theorem fl_X2_40 : FL RX2 40 2 4 := FL.mk fc_X2 (by decide) (gt_of (w := .fieldLink RX2 40 "OneBell$Kinds" "sluice" "LOneBell$Sluice;") 162 (by decide +kernel) rfl)
theorem fl_X5_12 : FL RX5 12 5 0 := FL.mk fc_X5 (by decide) (gt_of (w := .fieldLink RX5 12 "OneBell$Reader" "draft" "LOneBell$Village;") 311 (by decide +kernel) rfl)
theorem fl_X5_18 : FL RX5 18 5 1 := FL.mk fc_X5 (by decide) (gt_of (w := .fieldLink RX5 18 "OneBell$Reader" "items" "I") 313 (by decide +kernel) rfl)
theorem fp_X5_18 : FP RX5 18 5 1 .int := FP.mk fc_X5 (by decide) (gt_of (w := .fieldLink RX5 18 "OneBell$Reader" "items" "I") 313 (by decide +kernel) rfl) rfl rfl
theorem fl_X5_22 : FL RX5 22 5 2 := FL.mk fc_X5 (by decide) (gt_of (w := .fieldLink RX5 22 "OneBell$Reader" "start" "I") 315 (by decide +kernel) rfl)
theorem fp_X5_22 : FP RX5 22 5 2 .int := FP.mk fc_X5 (by decide) (gt_of (w := .fieldLink RX5 22 "OneBell$Reader" "start" "I") 315 (by decide +kernel) rfl) rfl rfl
theorem fl_X5_25 : FL RX5 25 5 3 := FL.mk fc_X5 (by decide) (gt_of (w := .fieldLink RX5 25 "OneBell$Reader" "text" "[I") 317 (by decide +kernel) rfl)
theorem fp_X5_25 : FP RX5 25 5 3 (.array .int) := FP.mk fc_X5 (by decide) (gt_of (w := .fieldLink RX5 25 "OneBell$Reader" "text" "[I") 317 (by decide +kernel) rfl) rfl rfl
theorem fl_X5_29 : FL RX5 29 5 4 := FL.mk fc_X5 (by decide) (gt_of (w := .fieldLink RX5 29 "OneBell$Reader" "length" "I") 318 (by decide +kernel) rfl)
theorem fp_X5_29 : FP RX5 29 5 4 .int := FP.mk fc_X5 (by decide) (gt_of (w := .fieldLink RX5 29 "OneBell$Reader" "length" "I") 318 (by decide +kernel) rfl) rfl rfl
theorem fl_X5_32 : FL RX5 32 5 5 := FL.mk fc_X5 (by decide) (gt_of (w := .fieldLink RX5 32 "OneBell$Reader" "at" "I") 319 (by decide +kernel) rfl)
theorem fp_X5_32 : FP RX5 32 5 5 .int := FP.mk fc_X5 (by decide) (gt_of (w := .fieldLink RX5 32 "OneBell$Reader" "at" "I") 319 (by decide +kernel) rfl) rfl rfl
theorem fl_X5_35 : FL RX5 35 5 6 := FL.mk fc_X5 (by decide) (gt_of (w := .fieldLink RX5 35 "OneBell$Reader" "token" "I") 320 (by decide +kernel) rfl)
theorem fp_X5_35 : FP RX5 35 5 6 .int := FP.mk fc_X5 (by decide) (gt_of (w := .fieldLink RX5 35 "OneBell$Reader" "token" "I") 320 (by decide +kernel) rfl) rfl rfl
theorem fl_X5_38 : FL RX5 38 5 7 := FL.mk fc_X5 (by decide) (gt_of (w := .fieldLink RX5 38 "OneBell$Reader" "number" "I") 321 (by decide +kernel) rfl)
theorem fp_X5_38 : FP RX5 38 5 7 .int := FP.mk fc_X5 (by decide) (gt_of (w := .fieldLink RX5 38 "OneBell$Reader" "number" "I") 321 (by decide +kernel) rfl) rfl rfl
theorem fl_X5_41 : FL RX5 41 5 8 := FL.mk fc_X5 (by decide) (gt_of (w := .fieldLink RX5 41 "OneBell$Reader" "numbers" "[I") 322 (by decide +kernel) rfl)
theorem fl_X5_92 : FL RX5 92 9 0 := FL.mk fc_X9 (by decide) (gt_of (w := .fieldLink RX5 92 "OneBell$Village" "things" "I") 39 (by decide +kernel) rfl)
theorem fp_X5_92 : FP RX5 92 9 0 .int := FP.mk fc_X9 (by decide) (gt_of (w := .fieldLink RX5 92 "OneBell$Village" "things" "I") 39 (by decide +kernel) rfl) rfl rfl
theorem fl_X5_103 : FL RX5 103 9 5 := FL.mk fc_X9 (by decide) (gt_of (w := .fieldLink RX5 103 "OneBell$Village" "whole" "I") 52 (by decide +kernel) rfl)
theorem fp_X5_103 : FP RX5 103 9 5 .int := FP.mk fc_X9 (by decide) (gt_of (w := .fieldLink RX5 103 "OneBell$Village" "whole" "I") 52 (by decide +kernel) rfl) rfl rfl
theorem fl_X5_110 : FL RX5 110 9 6 := FL.mk fc_X9 (by decide) (gt_of (w := .fieldLink RX5 110 "OneBell$Village" "damp" "I") 55 (by decide +kernel) rfl)
theorem fp_X5_110 : FP RX5 110 9 6 .int := FP.mk fc_X9 (by decide) (gt_of (w := .fieldLink RX5 110 "OneBell$Village" "damp" "I") 55 (by decide +kernel) rfl) rfl rfl
theorem fl_X5_112 : FL RX5 112 9 8 := FL.mk fc_X9 (by decide) (gt_of (w := .fieldLink RX5 112 "OneBell$Village" "errands" "I") 61 (by decide +kernel) rfl)
theorem fp_X5_112 : FP RX5 112 9 8 .int := FP.mk fc_X9 (by decide) (gt_of (w := .fieldLink RX5 112 "OneBell$Village" "errands" "I") 61 (by decide +kernel) rfl) rfl rfl
theorem fl_X5_119 : FL RX5 119 9 11 := FL.mk fc_X9 (by decide) (gt_of (w := .fieldLink RX5 119 "OneBell$Village" "rules" "I") 69 (by decide +kernel) rfl)
theorem fp_X5_119 : FP RX5 119 9 11 .int := FP.mk fc_X9 (by decide) (gt_of (w := .fieldLink RX5 119 "OneBell$Village" "rules" "I") 69 (by decide +kernel) rfl) rfl rfl
theorem fl_X6_11 : FL RX6 11 6 1 := FL.mk fc_X6 (by decide) (gt_of (w := .fieldLink RX6 11 "OneBell$SlackSearch" "things" "I") 274 (by decide +kernel) rfl)
theorem fp_X6_11 : FP RX6 11 6 1 .int := FP.mk fc_X6 (by decide) (gt_of (w := .fieldLink RX6 11 "OneBell$SlackSearch" "things" "I") 274 (by decide +kernel) rfl) rfl rfl
theorem fl_X6_15 : FL RX6 15 6 2 := FL.mk fc_X6 (by decide) (gt_of (w := .fieldLink RX6 15 "OneBell$SlackSearch" "rules" "I") 275 (by decide +kernel) rfl)
theorem fp_X6_15 : FP RX6 15 6 2 .int := FP.mk fc_X6 (by decide) (gt_of (w := .fieldLink RX6 15 "OneBell$SlackSearch" "rules" "I") 275 (by decide +kernel) rfl) rfl rfl
theorem fl_X6_18 : FL RX6 18 6 3 := FL.mk fc_X6 (by decide) (gt_of (w := .fieldLink RX6 18 "OneBell$SlackSearch" "pulled" "[I") 276 (by decide +kernel) rfl)
theorem fl_X6_22 : FL RX6 22 6 4 := FL.mk fc_X6 (by decide) (gt_of (w := .fieldLink RX6 22 "OneBell$SlackSearch" "canBe" "[Z") 277 (by decide +kernel) rfl)
theorem fl_X6_26 : FL RX6 26 6 5 := FL.mk fc_X6 (by decide) (gt_of (w := .fieldLink RX6 26 "OneBell$SlackSearch" "sumsByRule" "[I") 278 (by decide +kernel) rfl)
theorem fl_X6_29 : FL RX6 29 6 6 := FL.mk fc_X6 (by decide) (gt_of (w := .fieldLink RX6 29 "OneBell$SlackSearch" "sumsByPair" "[I") 279 (by decide +kernel) rfl)
theorem fl_X6_32 : FL RX6 32 6 7 := FL.mk fc_X6 (by decide) (gt_of (w := .fieldLink RX6 32 "OneBell$SlackSearch" "left" "[I") 280 (by decide +kernel) rfl)
theorem fl_X6_35 : FL RX6 35 6 8 := FL.mk fc_X6 (by decide) (gt_of (w := .fieldLink RX6 35 "OneBell$SlackSearch" "row" "[I") 281 (by decide +kernel) rfl)
theorem fl_X6_38 : FL RX6 38 6 0 := FL.mk fc_X6 (by decide) (gt_of (w := .fieldLink RX6 38 "OneBell$SlackSearch" "kinds" "LOneBell$Kinds;") 273 (by decide +kernel) rfl)
theorem fl_X6_42 : FL RX6 42 9 0 := FL.mk fc_X9 (by decide) (gt_of (w := .fieldLink RX6 42 "OneBell$Village" "things" "I") 36 (by decide +kernel) rfl)
theorem fp_X6_42 : FP RX6 42 9 0 .int := FP.mk fc_X9 (by decide) (gt_of (w := .fieldLink RX6 42 "OneBell$Village" "things" "I") 36 (by decide +kernel) rfl) rfl rfl
theorem fl_X6_45 : FL RX6 45 9 11 := FL.mk fc_X9 (by decide) (gt_of (w := .fieldLink RX6 45 "OneBell$Village" "rules" "I") 68 (by decide +kernel) rfl)
theorem fp_X6_45 : FP RX6 45 9 11 .int := FP.mk fc_X9 (by decide) (gt_of (w := .fieldLink RX6 45 "OneBell$Village" "rules" "I") 68 (by decide +kernel) rfl) rfl rfl
theorem fl_X6_46 : FL RX6 46 9 12 := FL.mk fc_X9 (by decide) (gt_of (w := .fieldLink RX6 46 "OneBell$Village" "ruleThing" "[I") 72 (by decide +kernel) rfl)
theorem fl_X6_57 : FL RX6 57 9 13 := FL.mk fc_X9 (by decide) (gt_of (w := .fieldLink RX6 57 "OneBell$Village" "ruleInches" "[I") 74 (by decide +kernel) rfl)
theorem fl_X6_66 : FL RX6 66 9 1 := FL.mk fc_X9 (by decide) (gt_of (w := .fieldLink RX6 66 "OneBell$Village" "kind" "[I") 43 (by decide +kernel) rfl)
theorem fl_X6_75 : FL RX6 75 9 3 := FL.mk fc_X9 (by decide) (gt_of (w := .fieldLink RX6 75 "OneBell$Village" "stop" "[I") 47 (by decide +kernel) rfl)
theorem fl_X6_84 : FL RX6 84 9 14 := FL.mk fc_X9 (by decide) (gt_of (w := .fieldLink RX6 84 "OneBell$Village" "ruleSet" "[I") 76 (by decide +kernel) rfl)
theorem fl_X8_9 : FL RX8 9 8 1 := FL.mk fc_X8 (by decide) (gt_of (w := .fieldLink RX8 9 "OneBell$Swing" "first" "I") 181 (by decide +kernel) rfl)
theorem fp_X8_9 : FP RX8 9 8 1 .int := FP.mk fc_X8 (by decide) (gt_of (w := .fieldLink RX8 9 "OneBell$Swing" "first" "I") 181 (by decide +kernel) rfl) rfl rfl
theorem fl_X8_15 : FL RX8 15 8 2 := FL.mk fc_X8 (by decide) (gt_of (w := .fieldLink RX8 15 "OneBell$Swing" "firstInches" "I") 182 (by decide +kernel) rfl)
theorem fp_X8_15 : FP RX8 15 8 2 .int := FP.mk fc_X8 (by decide) (gt_of (w := .fieldLink RX8 15 "OneBell$Swing" "firstInches" "I") 182 (by decide +kernel) rfl) rfl rfl
theorem fl_X8_18 : FL RX8 18 8 3 := FL.mk fc_X8 (by decide) (gt_of (w := .fieldLink RX8 18 "OneBell$Swing" "second" "I") 183 (by decide +kernel) rfl)
theorem fp_X8_18 : FP RX8 18 8 3 .int := FP.mk fc_X8 (by decide) (gt_of (w := .fieldLink RX8 18 "OneBell$Swing" "second" "I") 183 (by decide +kernel) rfl) rfl rfl
theorem fl_X8_21 : FL RX8 21 8 4 := FL.mk fc_X8 (by decide) (gt_of (w := .fieldLink RX8 21 "OneBell$Swing" "secondInches" "I") 184 (by decide +kernel) rfl)
theorem fp_X8_21 : FP RX8 21 8 4 .int := FP.mk fc_X8 (by decide) (gt_of (w := .fieldLink RX8 21 "OneBell$Swing" "secondInches" "I") 184 (by decide +kernel) rfl) rfl rfl
theorem fl_X8_24 : FL RX8 24 8 5 := FL.mk fc_X8 (by decide) (gt_of (w := .fieldLink RX8 24 "OneBell$Swing" "travel" "I") 185 (by decide +kernel) rfl)
theorem fp_X8_24 : FP RX8 24 8 5 .int := FP.mk fc_X8 (by decide) (gt_of (w := .fieldLink RX8 24 "OneBell$Swing" "travel" "I") 185 (by decide +kernel) rfl) rfl rfl
theorem fl_X8_27 : FL RX8 27 8 6 := FL.mk fc_X8 (by decide) (gt_of (w := .fieldLink RX8 27 "OneBell$Swing" "counting" "I") 186 (by decide +kernel) rfl)
theorem fp_X8_27 : FP RX8 27 8 6 .int := FP.mk fc_X8 (by decide) (gt_of (w := .fieldLink RX8 27 "OneBell$Swing" "counting" "I") 186 (by decide +kernel) rfl) rfl rfl
theorem fl_X8_30 : FL RX8 30 8 7 := FL.mk fc_X8 (by decide) (gt_of (w := .fieldLink RX8 30 "OneBell$Swing" "turned" "I") 188 (by decide +kernel) rfl)
theorem fp_X8_30 : FP RX8 30 8 7 .int := FP.mk fc_X8 (by decide) (gt_of (w := .fieldLink RX8 30 "OneBell$Swing" "turned" "I") 188 (by decide +kernel) rfl) rfl rfl
theorem fl_X8_33 : FL RX8 33 8 0 := FL.mk fc_X8 (by decide) (gt_of (w := .fieldLink RX8 33 "OneBell$Swing" "kinds" "LOneBell$Kinds;") 180 (by decide +kernel) rfl)
theorem fl_X8_41 : FL RX8 41 9 0 := FL.mk fc_X9 (by decide) (gt_of (w := .fieldLink RX8 41 "OneBell$Village" "things" "I") 37 (by decide +kernel) rfl)
theorem fp_X8_41 : FP RX8 41 9 0 .int := FP.mk fc_X9 (by decide) (gt_of (w := .fieldLink RX8 41 "OneBell$Village" "things" "I") 37 (by decide +kernel) rfl) rfl rfl
theorem fl_X8_46 : FL RX8 46 9 1 := FL.mk fc_X9 (by decide) (gt_of (w := .fieldLink RX8 46 "OneBell$Village" "kind" "[I") 42 (by decide +kernel) rfl)
theorem fl_X8_60 : FL RX8 60 9 3 := FL.mk fc_X9 (by decide) (gt_of (w := .fieldLink RX8 60 "OneBell$Village" "stop" "[I") 46 (by decide +kernel) rfl)
theorem fl_X9_9 : FL RX9 9 9 0 := FL.mk fc_X9 (by decide) (gt_of (w := .fieldLink RX9 9 "OneBell$Village" "things" "I") 35 (by decide +kernel) rfl)
theorem fp_X9_9 : FP RX9 9 9 0 .int := FP.mk fc_X9 (by decide) (gt_of (w := .fieldLink RX9 9 "OneBell$Village" "things" "I") 35 (by decide +kernel) rfl) rfl rfl
theorem fl_X9_15 : FL RX9 15 9 1 := FL.mk fc_X9 (by decide) (gt_of (w := .fieldLink RX9 15 "OneBell$Village" "kind" "[I") 41 (by decide +kernel) rfl)
theorem fl_X9_19 : FL RX9 19 9 2 := FL.mk fc_X9 (by decide) (gt_of (w := .fieldLink RX9 19 "OneBell$Village" "slack" "[I") 44 (by decide +kernel) rfl)
theorem fl_X9_22 : FL RX9 22 9 3 := FL.mk fc_X9 (by decide) (gt_of (w := .fieldLink RX9 22 "OneBell$Village" "stop" "[I") 45 (by decide +kernel) rfl)
theorem fl_X9_25 : FL RX9 25 9 4 := FL.mk fc_X9 (by decide) (gt_of (w := .fieldLink RX9 25 "OneBell$Village" "harm" "[I") 48 (by decide +kernel) rfl)
theorem fl_X9_28 : FL RX9 28 9 5 := FL.mk fc_X9 (by decide) (gt_of (w := .fieldLink RX9 28 "OneBell$Village" "whole" "I") 49 (by decide +kernel) rfl)
theorem fp_X9_28 : FP RX9 28 9 5 .int := FP.mk fc_X9 (by decide) (gt_of (w := .fieldLink RX9 28 "OneBell$Village" "whole" "I") 49 (by decide +kernel) rfl) rfl rfl
theorem fl_X9_31 : FL RX9 31 9 6 := FL.mk fc_X9 (by decide) (gt_of (w := .fieldLink RX9 31 "OneBell$Village" "damp" "I") 53 (by decide +kernel) rfl)
theorem fp_X9_31 : FP RX9 31 9 6 .int := FP.mk fc_X9 (by decide) (gt_of (w := .fieldLink RX9 31 "OneBell$Village" "damp" "I") 53 (by decide +kernel) rfl) rfl rfl
theorem fl_X9_34 : FL RX9 34 9 7 := FL.mk fc_X9 (by decide) (gt_of (w := .fieldLink RX9 34 "OneBell$Village" "open" "I") 56 (by decide +kernel) rfl)
theorem fp_X9_34 : FP RX9 34 9 7 .int := FP.mk fc_X9 (by decide) (gt_of (w := .fieldLink RX9 34 "OneBell$Village" "open" "I") 56 (by decide +kernel) rfl) rfl rfl
theorem fl_X9_37 : FL RX9 37 9 8 := FL.mk fc_X9 (by decide) (gt_of (w := .fieldLink RX9 37 "OneBell$Village" "errands" "I") 59 (by decide +kernel) rfl)
theorem fp_X9_37 : FP RX9 37 9 8 .int := FP.mk fc_X9 (by decide) (gt_of (w := .fieldLink RX9 37 "OneBell$Village" "errands" "I") 59 (by decide +kernel) rfl) rfl rfl
theorem fl_X9_40 : FL RX9 40 9 9 := FL.mk fc_X9 (by decide) (gt_of (w := .fieldLink RX9 40 "OneBell$Village" "errandThing" "[I") 63 (by decide +kernel) rfl)
theorem fl_X9_43 : FL RX9 43 9 10 := FL.mk fc_X9 (by decide) (gt_of (w := .fieldLink RX9 43 "OneBell$Village" "errandInches" "[I") 65 (by decide +kernel) rfl)
theorem fl_X9_46 : FL RX9 46 9 11 := FL.mk fc_X9 (by decide) (gt_of (w := .fieldLink RX9 46 "OneBell$Village" "rules" "I") 67 (by decide +kernel) rfl)
theorem fp_X9_46 : FP RX9 46 9 11 .int := FP.mk fc_X9 (by decide) (gt_of (w := .fieldLink RX9 46 "OneBell$Village" "rules" "I") 67 (by decide +kernel) rfl) rfl rfl
theorem fl_X9_49 : FL RX9 49 9 12 := FL.mk fc_X9 (by decide) (gt_of (w := .fieldLink RX9 49 "OneBell$Village" "ruleThing" "[I") 71 (by decide +kernel) rfl)
theorem fl_X9_52 : FL RX9 52 9 13 := FL.mk fc_X9 (by decide) (gt_of (w := .fieldLink RX9 52 "OneBell$Village" "ruleInches" "[I") 73 (by decide +kernel) rfl)
theorem fl_X9_55 : FL RX9 55 9 14 := FL.mk fc_X9 (by decide) (gt_of (w := .fieldLink RX9 55 "OneBell$Village" "ruleSet" "[I") 75 (by decide +kernel) rfl)
theorem fl_X9_58 : FL RX9 58 9 15 := FL.mk fc_X9 (by decide) (gt_of (w := .fieldLink RX9 58 "OneBell$Village" "pasts" "I") 77 (by decide +kernel) rfl)
theorem fp_X9_58 : FP RX9 58 9 15 .int := FP.mk fc_X9 (by decide) (gt_of (w := .fieldLink RX9 58 "OneBell$Village" "pasts" "I") 77 (by decide +kernel) rfl) rfl rfl
theorem fl_X9_61 : FL RX9 61 9 16 := FL.mk fc_X9 (by decide) (gt_of (w := .fieldLink RX9 61 "OneBell$Village" "past" "[I") 79 (by decide +kernel) rfl)
theorem fl_X12_7 : FL RX12 7 12 0 := FL.mk fc_X12 (by decide) (gt_of (w := .fieldLink RX12 7 "OneBellModel" "now" "[I") 883 (by decide +kernel) rfl)
theorem fl_X12_13 : FL RX12 13 12 1 := FL.mk fc_X12 (by decide) (gt_of (w := .fieldLink RX12 13 "OneBellModel" "kept" "[I") 884 (by decide +kernel) rfl)
theorem fl_X12_16 : FL RX12 16 12 2 := FL.mk fc_X12 (by decide) (gt_of (w := .fieldLink RX12 16 "OneBellModel" "isKept" "[Z") 885 (by decide +kernel) rfl)
theorem fl_X12_20 : FL RX12 20 12 3 := FL.mk fc_X12 (by decide) (gt_of (w := .fieldLink RX12 20 "OneBellModel" "refused" "[I") 886 (by decide +kernel) rfl)
theorem fl_X12_23 : FL RX12 23 12 5 := FL.mk fc_X12 (by decide) (gt_of (w := .fieldLink RX12 23 "OneBellModel" "below" "J") 888 (by decide +kernel) rfl)
theorem fp_X12_23 : FP RX12 23 12 5 .long := FP.mk fc_X12 (by decide) (gt_of (w := .fieldLink RX12 23 "OneBellModel" "below" "J") 888 (by decide +kernel) rfl) rfl rfl
theorem fl_X12_27 : FL RX12 27 12 6 := FL.mk fc_X12 (by decide) (gt_of (w := .fieldLink RX12 27 "OneBellModel" "slacks" "[I") 889 (by decide +kernel) rfl)
theorem fl_X12_30 : FL RX12 30 12 12 := FL.mk fc_X12 (by decide) (gt_of (w := .fieldLink RX12 30 "OneBellModel" "row" "[I") 895 (by decide +kernel) rfl)
theorem fl_X12_33 : FL RX12 33 12 13 := FL.mk fc_X12 (by decide) (gt_of (w := .fieldLink RX12 33 "OneBellModel" "bestRow" "[I") 896 (by decide +kernel) rfl)
theorem fl_X12_36 : FL RX12 36 12 15 := FL.mk fc_X12 (by decide) (gt_of (w := .fieldLink RX12 36 "OneBellModel" "far" "[I") 898 (by decide +kernel) rfl)
theorem fl_X12_39 : FL RX12 39 12 16 := FL.mk fc_X12 (by decide) (gt_of (w := .fieldLink RX12 39 "OneBellModel" "bytes" "[I") 899 (by decide +kernel) rfl)
theorem fl_X12_42 : FL RX12 42 12 22 := FL.mk fc_X12 (by decide) (gt_of (w := .fieldLink RX12 42 "OneBellModel" "next" "[I") 905 (by decide +kernel) rfl)
theorem fl_X12_45 : FL RX12 45 12 23 := FL.mk fc_X12 (by decide) (gt_of (w := .fieldLink RX12 45 "OneBellModel" "values" "[I") 906 (by decide +kernel) rfl)
theorem fl_X12_89 : FL RX12 89 12 7 := FL.mk fc_X12 (by decide) (gt_of (w := .fieldLink RX12 89 "OneBellModel" "whole" "I") 890 (by decide +kernel) rfl)
theorem fp_X12_89 : FP RX12 89 12 7 .int := FP.mk fc_X12 (by decide) (gt_of (w := .fieldLink RX12 89 "OneBellModel" "whole" "I") 890 (by decide +kernel) rfl) rfl rfl
theorem fl_X12_93 : FL RX12 93 12 8 := FL.mk fc_X12 (by decide) (gt_of (w := .fieldLink RX12 93 "OneBellModel" "first" "I") 891 (by decide +kernel) rfl)
theorem fp_X12_93 : FP RX12 93 12 8 .int := FP.mk fc_X12 (by decide) (gt_of (w := .fieldLink RX12 93 "OneBellModel" "first" "I") 891 (by decide +kernel) rfl) rfl rfl
theorem fl_X12_96 : FL RX12 96 12 9 := FL.mk fc_X12 (by decide) (gt_of (w := .fieldLink RX12 96 "OneBellModel" "firstBy" "I") 892 (by decide +kernel) rfl)
theorem fp_X12_96 : FP RX12 96 12 9 .int := FP.mk fc_X12 (by decide) (gt_of (w := .fieldLink RX12 96 "OneBellModel" "firstBy" "I") 892 (by decide +kernel) rfl) rfl rfl
theorem fl_X12_99 : FL RX12 99 12 10 := FL.mk fc_X12 (by decide) (gt_of (w := .fieldLink RX12 99 "OneBellModel" "second" "I") 893 (by decide +kernel) rfl)
theorem fp_X12_99 : FP RX12 99 12 10 .int := FP.mk fc_X12 (by decide) (gt_of (w := .fieldLink RX12 99 "OneBellModel" "second" "I") 893 (by decide +kernel) rfl) rfl rfl
theorem fl_X12_102 : FL RX12 102 12 11 := FL.mk fc_X12 (by decide) (gt_of (w := .fieldLink RX12 102 "OneBellModel" "secondBy" "I") 894 (by decide +kernel) rfl)
theorem fp_X12_102 : FP RX12 102 12 11 .int := FP.mk fc_X12 (by decide) (gt_of (w := .fieldLink RX12 102 "OneBellModel" "secondBy" "I") 894 (by decide +kernel) rfl) rfl rfl
theorem fl_X12_146 : FL RX12 146 12 14 := FL.mk fc_X12 (by decide) (gt_of (w := .fieldLink RX12 146 "OneBellModel" "least" "I") 897 (by decide +kernel) rfl)
theorem fp_X12_146 : FP RX12 146 12 14 .int := FP.mk fc_X12 (by decide) (gt_of (w := .fieldLink RX12 146 "OneBellModel" "least" "I") 897 (by decide +kernel) rfl) rfl rfl
theorem fl_X12_183 : FL RX12 183 12 4 := FL.mk fc_X12 (by decide) (gt_of (w := .fieldLink RX12 183 "OneBellModel" "above" "J") 887 (by decide +kernel) rfl)
theorem fp_X12_183 : FP RX12 183 12 4 .long := FP.mk fc_X12 (by decide) (gt_of (w := .fieldLink RX12 183 "OneBellModel" "above" "J") 887 (by decide +kernel) rfl) rfl rfl
theorem fl_X12_188 : FL RX12 188 12 17 := FL.mk fc_X12 (by decide) (gt_of (w := .fieldLink RX12 188 "OneBellModel" "bytesLong" "I") 900 (by decide +kernel) rfl)
theorem fp_X12_188 : FP RX12 188 12 17 .int := FP.mk fc_X12 (by decide) (gt_of (w := .fieldLink RX12 188 "OneBellModel" "bytesLong" "I") 900 (by decide +kernel) rfl) rfl rfl
theorem fl_X12_201 : FL RX12 201 12 18 := FL.mk fc_X12 (by decide) (gt_of (w := .fieldLink RX12 201 "OneBellModel" "tokenAt" "I") 901 (by decide +kernel) rfl)
theorem fp_X12_201 : FP RX12 201 12 18 .int := FP.mk fc_X12 (by decide) (gt_of (w := .fieldLink RX12 201 "OneBellModel" "tokenAt" "I") 901 (by decide +kernel) rfl) rfl rfl
theorem fl_X12_204 : FL RX12 204 12 19 := FL.mk fc_X12 (by decide) (gt_of (w := .fieldLink RX12 204 "OneBellModel" "tokenLong" "I") 902 (by decide +kernel) rfl)
theorem fp_X12_204 : FP RX12 204 12 19 .int := FP.mk fc_X12 (by decide) (gt_of (w := .fieldLink RX12 204 "OneBellModel" "tokenLong" "I") 902 (by decide +kernel) rfl) rfl rfl
theorem fl_X12_207 : FL RX12 207 12 20 := FL.mk fc_X12 (by decide) (gt_of (w := .fieldLink RX12 207 "OneBellModel" "token" "I") 903 (by decide +kernel) rfl)
theorem fp_X12_207 : FP RX12 207 12 20 .int := FP.mk fc_X12 (by decide) (gt_of (w := .fieldLink RX12 207 "OneBellModel" "token" "I") 903 (by decide +kernel) rfl) rfl rfl
theorem fl_X12_210 : FL RX12 210 12 21 := FL.mk fc_X12 (by decide) (gt_of (w := .fieldLink RX12 210 "OneBellModel" "value" "I") 904 (by decide +kernel) rfl)
theorem fp_X12_210 : FP RX12 210 12 21 .int := FP.mk fc_X12 (by decide) (gt_of (w := .fieldLink RX12 210 "OneBellModel" "value" "I") 904 (by decide +kernel) rfl) rfl rfl
theorem cd_X11_init : Cond.code yX11_init cX11_init 2 none ∈ gt := gt_of 25 (by decide +kernel) rfl
theorem cd_X11_bad : Cond.code yX11_bad cX11_bad 2 (some .int) ∈ gt := gt_of 392 (by decide +kernel) rfl
theorem cd_X11_both : Cond.code yX11_both cX11_both 5 (some .int) ∈ gt := gt_of 636 (by decide +kernel) rfl
theorem cd_X11_clear : Cond.code yX11_clear cX11_clear 2 (some .int) ∈ gt := gt_of 428 (by decide +kernel) rfl
theorem cd_X11_code : Cond.code yX11_code cX11_code 4 (some .int) ∈ gt := gt_of 700 (by decide +kernel) rfl
theorem cd_X11_count : Cond.code yX11_count cX11_count 2 (some .int) ∈ gt := gt_of 860 (by decide +kernel) rfl
theorem cd_X11_cuts : Cond.code yX11_cuts cX11_cuts 2 (some .int) ∈ gt := gt_of 741 (by decide +kernel) rfl
theorem cd_X11_damp : Cond.code yX11_damp cX11_damp 3 (some .int) ∈ gt := gt_of 420 (by decide +kernel) rfl
theorem cd_X11_digest : Cond.code yX11_digest cX11_digest 4 (some .long) ∈ gt := gt_of 869 (by decide +kernel) rfl
theorem cd_X11_doSwing : Cond.code yX11_doSwing cX11_doSwing 1 (some .int) ∈ gt := gt_of 620 (by decide +kernel) rfl
theorem cd_X11_drop : Cond.code yX11_drop cX11_drop 1 (some .int) ∈ gt := gt_of 666 (by decide +kernel) rfl
theorem cd_X11_errand : Cond.code yX11_errand cX11_errand 3 (some .int) ∈ gt := gt_of 661 (by decide +kernel) rfl
theorem cd_X11_free : Cond.code yX11_free cX11_free 2 (some .int) ∈ gt := gt_of 764 (by decide +kernel) rfl
theorem cd_X11_from : Cond.code yX11_from cX11_from 3 (some .int) ∈ gt := gt_of 852 (by decide +kernel) rfl
theorem cd_X11_giveUp : Cond.code yX11_giveUp cX11_giveUp 1 (some .int) ∈ gt := gt_of 813 (by decide +kernel) rfl
theorem cd_X11_has : Cond.code yX11_has cX11_has 2 (some .boolean) ∈ gt := gt_of 412 (by decide +kernel) rfl
theorem cd_X11_heard : Cond.code yX11_heard cX11_heard 2 (some .int) ∈ gt := gt_of 732 (by decide +kernel) rfl
theorem cd_X11_howMany : Cond.code yX11_howMany cX11_howMany 2 (some .int) ∈ gt := gt_of 864 (by decide +kernel) rfl
theorem cd_X11_image : Cond.code yX11_image cX11_image 2 (some .int) ∈ gt := gt_of 848 (by decide +kernel) rfl
theorem cd_X11_isPull : Cond.code yX11_isPull cX11_isPull 3 (some .boolean) ∈ gt := gt_of 571 (by decide +kernel) rfl
theorem cd_X11_keepFraction : Cond.code yX11_keepFraction cX11_keepFraction 7 none ∈ gt := gt_of 837 (by decide +kernel) rfl
theorem cd_X11_moves : Cond.code yX11_moves cX11_moves 4 (some .int) ∈ gt := gt_of 648 (by decide +kernel) rfl
theorem cd_X11_open : Cond.code yX11_open cX11_open 1 (some .int) ∈ gt := gt_of 644 (by decide +kernel) rfl
theorem cd_X11_order : Cond.code yX11_order cX11_order 2 (some .int) ∈ gt := gt_of 670 (by decide +kernel) rfl
theorem cd_X11_part : Cond.code yX11_part cX11_part 2 (some .long) ∈ gt := gt_of 844 (by decide +kernel) rfl
theorem cd_X11_pull : Cond.code yX11_pull cX11_pull 3 (some .int) ∈ gt := gt_of 567 (by decide +kernel) rfl
theorem cd_X11_read : Cond.code yX11_read cX11_read 2 (some .int) ∈ gt := gt_of 432 (by decide +kernel) rfl
theorem cd_X11_refusedNow : Cond.code yX11_refusedNow cX11_refusedNow 1 (some .int) ∈ gt := gt_of 416 (by decide +kernel) rfl
theorem cd_X11_rope : Cond.code yX11_rope cX11_rope 3 (some .int) ∈ gt := gt_of 404 (by decide +kernel) rfl
theorem cd_X11_rule : Cond.code yX11_rule cX11_rule 4 (some .int) ∈ gt := gt_of 759 (by decide +kernel) rfl
theorem cd_X11_share : Cond.code yX11_share cX11_share 2 (some .int) ∈ gt := gt_of 823 (by decide +kernel) rfl
theorem cd_X11_slack : Cond.code yX11_slack cX11_slack 2 (some .int) ∈ gt := gt_of 768 (by decide +kernel) rfl
theorem cd_X11_status : Cond.code yX11_status cX11_status 2 (some .int) ∈ gt := gt_of 856 (by decide +kernel) rfl
theorem cd_X11_thing : Cond.code yX11_thing cX11_thing 6 (some .int) ∈ gt := gt_of 385 (by decide +kernel) rfl
theorem cd_X11_tooMany : Cond.code yX11_tooMany cX11_tooMany 1 (some .int) ∈ gt := gt_of 396 (by decide +kernel) rfl
theorem cd_X11_type : Cond.code yX11_type cX11_type 5 (some .int) ∈ gt := gt_of 424 (by decide +kernel) rfl
theorem cd_X11_undo : Cond.code yX11_undo cX11_undo 1 (some .int) ∈ gt := gt_of 653 (by decide +kernel) rfl
theorem cd_X11_who : Cond.code yX11_who cX11_who 3 (some .int) ∈ gt := gt_of 716 (by decide +kernel) rfl
theorem cd_X11_within : Cond.code yX11_within cX11_within 3 (some .boolean) ∈ gt := gt_of 388 (by decide +kernel) rfl
theorem cd_X11_would : Cond.code yX11_would cX11_would 3 (some .int) ∈ gt := gt_of 640 (by decide +kernel) rfl
theorem cd_X0_init : Cond.code yX0_init cX0_init 2 none ∈ gt := gt_of 211 (by decide +kernel) rfl
theorem cd_X0_anyOpens : Cond.code yX0_anyOpens cX0_anyOpens 4 (some .boolean) ∈ gt := gt_of 755 (by decide +kernel) rfl
theorem cd_X0_behind : Cond.code yX0_behind cX0_behind 3 (some .int) ∈ gt := gt_of 691 (by decide +kernel) rfl
theorem cd_X0_fewestCuts : Cond.code yX0_fewestCuts cX0_fewestCuts 6 (some .int) ∈ gt := gt_of 745 (by decide +kernel) rfl
theorem cd_X0_findCodes : Cond.code yX0_findCodes cX0_findCodes 7 none ∈ gt := gt_of 708 (by decide +kernel) rfl
theorem cd_X0_findEnds : Cond.code yX0_findEnds cX0_findEnds 4 none ∈ gt := gt_of 720 (by decide +kernel) rfl
theorem cd_X0_findHarmOfRopes : Cond.code yX0_findHarmOfRopes cX0_findHarmOfRopes 5 none ∈ gt := gt_of 827 (by decide +kernel) rfl
theorem cd_X0_findOrder : Cond.code yX0_findOrder cX0_findOrder 2 none ∈ gt := gt_of 674 (by decide +kernel) rfl
theorem cd_X0_findRest : Cond.code yX0_findRest cX0_findRest 9 none ∈ gt := gt_of 685 (by decide +kernel) rfl
theorem cd_X0_howManyEndAt : Cond.code yX0_howManyEndAt cX0_howManyEndAt 4 (some .int) ∈ gt := gt_of 724 (by decide +kernel) rfl
theorem cd_X0_leastThatEndsAt : Cond.code yX0_leastThatEndsAt cX0_leastThatEndsAt 3 (some .int) ∈ gt := gt_of 728 (by decide +kernel) rfl
theorem cd_X0_look : Cond.code yX0_look cX0_look 4 none ∈ gt := gt_of 678 (by decide +kernel) rfl
theorem cd_X0_stepTo : Cond.code yX0_stepTo cX0_stepTo 5 (some .int) ∈ gt := gt_of 712 (by decide +kernel) rfl
theorem cd_X0_thatRing : Cond.code yX0_thatRing cX0_thatRing 4 (some .int) ∈ gt := gt_of 737 (by decide +kernel) rfl
theorem cd_X0_weighShare : Cond.code yX0_weighShare cX0_weighShare 6 none ∈ gt := gt_of 831 (by decide +kernel) rfl
theorem cd_X1_init : Cond.code yX1_init cX1_init 1 none ∈ gt := gt_of 127 (by decide +kernel) rfl
theorem cd_X1_becomes : Cond.code yX1_becomes cX1_becomes 4 (some .boolean) ∈ gt := gt_of 616 (by decide +kernel) rfl
theorem cd_X2_init : Cond.code yX2_init cX2_init 1 none ∈ gt := gt_of 121 (by decide +kernel) rfl
theorem cd_X2_ofNumber : Cond.code yX2_ofNumber cX2_ofNumber 2 (some (.object "OneBell$Door")) ∈ gt := gt_of 591 (by decide +kernel) rfl
theorem cd_X3_init : Cond.code yX3_init cX3_init 1 none ∈ gt := gt_of 134 (by decide +kernel) rfl
theorem cd_X3_becomes : Cond.code yX3_becomes cX3_becomes 4 (some .boolean) ∈ gt := gt_of 602 (by decide +kernel) rfl
theorem cd_X4_init : Cond.code yX4_init cX4_init 1 none ∈ gt := gt_of 141 (by decide +kernel) rfl
theorem cd_X4_becomes : Cond.code yX4_becomes cX4_becomes 4 (some .boolean) ∈ gt := gt_of 606 (by decide +kernel) rfl
theorem cd_X5_init : Cond.code yX5_init cX5_init 1 none ∈ gt := gt_of 307 (by decide +kernel) rfl
theorem cd_X5_endOfRun : Cond.code yX5_endOfRun cX5_endOfRun 5 (some .int) ∈ gt := gt_of 451 (by decide +kernel) rfl
theorem cd_X5_isWord : Cond.code yX5_isWord cX5_isWord 3 (some .boolean) ∈ gt := gt_of 464 (by decide +kernel) rfl
theorem cd_X5_nextToken : Cond.code yX5_nextToken cX5_nextToken 1 none ∈ gt := gt_of 447 (by decide +kernel) rfl
theorem cd_X5_takeFigures : Cond.code yX5_takeFigures cX5_takeFigures 2 none ∈ gt := gt_of 455 (by decide +kernel) rfl
theorem cd_X5_takes : Cond.code yX5_takes cX5_takes 4 (some .boolean) ∈ gt := gt_of 436 (by decide +kernel) rfl
theorem cd_X5_takesCut : Cond.code yX5_takesCut cX5_takesCut 1 (some .boolean) ∈ gt := gt_of 527 (by decide +kernel) rfl
theorem cd_X5_takesDamp : Cond.code yX5_takesDamp cX5_takesDamp 1 (some .boolean) ∈ gt := gt_of 533 (by decide +kernel) rfl
theorem cd_X5_takesEndOfItem : Cond.code yX5_takesEndOfItem cX5_takesEndOfItem 1 (some .boolean) ∈ gt := gt_of 555 (by decide +kernel) rfl
theorem cd_X5_takesErrand : Cond.code yX5_takesErrand cX5_takesErrand 2 (some .boolean) ∈ gt := gt_of 538 (by decide +kernel) rfl
theorem cd_X5_takesItem : Cond.code yX5_takesItem cX5_takesItem 1 (some .boolean) ∈ gt := gt_of 459 (by decide +kernel) rfl
theorem cd_X5_takesNumber : Cond.code yX5_takesNumber cX5_takesNumber 4 (some .boolean) ∈ gt := gt_of 520 (by decide +kernel) rfl
theorem cd_X5_takesRule : Cond.code yX5_takesRule cX5_takesRule 2 (some .boolean) ∈ gt := gt_of 547 (by decide +kernel) rfl
theorem cd_X5_takesThing : Cond.code yX5_takesThing cX5_takesThing 2 (some .boolean) ∈ gt := gt_of 516 (by decide +kernel) rfl
theorem cd_X6_init : Cond.code yX6_init cX6_init 2 none ∈ gt := gt_of 271 (by decide +kernel) rfl
theorem cd_X6_fewestGivenUp : Cond.code yX6_fewestGivenUp cX6_fewestGivenUp 4 (some .int) ∈ gt := gt_of 817 (by decide +kernel) rfl
theorem cd_X6_fitsFrom : Cond.code yX6_fitsFrom cX6_fitsFrom 4 (some .boolean) ∈ gt := gt_of 805 (by decide +kernel) rfl
theorem cd_X6_fitsWithout : Cond.code yX6_fitsWithout cX6_fitsWithout 3 (some .boolean) ∈ gt := gt_of 788 (by decide +kernel) rfl
theorem cd_X6_fittedBySome : Cond.code yX6_fittedBySome cX6_fittedBySome 6 (some .int) ∈ gt := gt_of 801 (by decide +kernel) rfl
theorem cd_X6_isSo : Cond.code yX6_isSo cX6_isSo 7 (some .boolean) ∈ gt := gt_of 776 (by decide +kernel) rfl
theorem cd_X6_learn : Cond.code yX6_learn cX6_learn 5 none ∈ gt := gt_of 772 (by decide +kernel) rfl
theorem cd_X6_leavesSome : Cond.code yX6_leavesSome cX6_leavesSome 6 (some .boolean) ∈ gt := gt_of 809 (by decide +kernel) rfl
theorem cd_X6_narrowPairs : Cond.code yX6_narrowPairs cX6_narrowPairs 5 none ∈ gt := gt_of 793 (by decide +kernel) rfl
theorem cd_X6_strikesOut : Cond.code yX6_strikesOut cX6_strikesOut 5 (some .boolean) ∈ gt := gt_of 797 (by decide +kernel) rfl
theorem cd_X6_sumsFor : Cond.code yX6_sumsFor cX6_sumsFor 6 (some .int) ∈ gt := gt_of 784 (by decide +kernel) rfl
theorem cd_X7_init : Cond.code yX7_init cX7_init 1 none ∈ gt := gt_of 155 (by decide +kernel) rfl
theorem cd_X7_becomes : Cond.code yX7_becomes cX7_becomes 4 (some .boolean) ∈ gt := gt_of 610 (by decide +kernel) rfl
theorem cd_X8_init : Cond.code yX8_init cX8_init 2 none ∈ gt := gt_of 178 (by decide +kernel) rfl
theorem cd_X8_behind : Cond.code yX8_behind cX8_behind 2 (some .int) ∈ gt := gt_of 628 (by decide +kernel) rfl
theorem cd_X8_by : Cond.code yX8_by cX8_by 12 none ∈ gt := gt_of 575 (by decide +kernel) rfl
theorem cd_X8_moveOf : Cond.code yX8_moveOf cX8_moveOf 4 (some .int) ∈ gt := gt_of 595 (by decide +kernel) rfl
theorem cd_X8_rings : Cond.code yX8_rings cX8_rings 1 (some .int) ∈ gt := gt_of 632 (by decide +kernel) rfl
theorem cd_X8_travelBy : Cond.code yX8_travelBy cX8_travelBy 4 (some .int) ∈ gt := gt_of 578 (by decide +kernel) rfl
theorem cd_X9_init : Cond.code yX9_init cX9_init 1 none ∈ gt := gt_of 33 (by decide +kernel) rfl
theorem cd_X9_addErrand : Cond.code yX9_addErrand cX9_addErrand 3 none ∈ gt := gt_of 542 (by decide +kernel) rfl
theorem cd_X9_addRule : Cond.code yX9_addRule cX9_addRule 4 none ∈ gt := gt_of 551 (by decide +kernel) rfl
theorem cd_X9_addThing : Cond.code yX9_addThing cX9_addThing 5 none ∈ gt := gt_of 400 (by decide +kernel) rfl
theorem cd_X9_becomeEmpty : Cond.code yX9_becomeEmpty cX9_becomeEmpty 1 none ∈ gt := gt_of 443 (by decide +kernel) rfl
theorem cd_X9_becomeLike : Cond.code yX9_becomeLike cX9_becomeLike 2 none ∈ gt := gt_of 559 (by decide +kernel) rfl
theorem cd_X9_goBack : Cond.code yX9_goBack cX9_goBack 1 none ∈ gt := gt_of 657 (by decide +kernel) rfl
theorem cd_X9_harmOf : Cond.code yX9_harmOf cX9_harmOf 4 (some .int) ∈ gt := gt_of 695 (by decide +kernel) rfl
theorem cd_X9_hasSet : Cond.code yX9_hasSet cX9_hasSet 2 (some .boolean) ∈ gt := gt_of 704 (by decide +kernel) rfl
theorem cd_X9_hasThing : Cond.code yX9_hasThing cX9_hasThing 2 (some .boolean) ∈ gt := gt_of 408 (by decide +kernel) rfl
theorem cd_X9_mixInto : Cond.code yX9_mixInto cX9_mixInto 6 (some .long) ∈ gt := gt_of 875 (by decide +kernel) rfl
theorem cd_X9_remember : Cond.code yX9_remember cX9_remember 1 none ∈ gt := gt_of 624 (by decide +kernel) rfl
theorem cd_X9_slackInDamp : Cond.code yX9_slackInDamp cX9_slackInDamp 2 (some .int) ∈ gt := gt_of 583 (by decide +kernel) rfl
theorem cd_X10_init : Cond.code yX10_init cX10_init 1 none ∈ gt := gt_of 148 (by decide +kernel) rfl
theorem cd_X10_becomes : Cond.code yX10_becomes cX10_becomes 4 (some .boolean) ∈ gt := gt_of 614 (by decide +kernel) rfl
theorem cd_X12_init : Cond.code yX12_init cX12_init 1 none ∈ gt := gt_of 881 (by decide +kernel) rfl
theorem cd_X12_all : Cond.code yX12_all cX12_all 1 (some .int) ∈ gt := gt_of 1112 (by decide +kernel) rfl
theorem cd_X12_bad : Cond.code yX12_bad cX12_bad 2 (some .int) ∈ gt := gt_of 968 (by decide +kernel) rfl
theorem cd_X12_behind : Cond.code yX12_behind cX12_behind 8 (some .int) ∈ gt := gt_of 1032 (by decide +kernel) rfl
theorem cd_X12_bits : Cond.code yX12_bits cX12_bits 3 (some .int) ∈ gt := gt_of 1088 (by decide +kernel) rfl
theorem cd_X12_both : Cond.code yX12_both cX12_both 5 (some .int) ∈ gt := gt_of 1048 (by decide +kernel) rfl
theorem cd_X12_clear : Cond.code yX12_clear cX12_clear 2 (some .int) ∈ gt := gt_of 1180 (by decide +kernel) rfl
theorem cd_X12_code : Cond.code yX12_code cX12_code 7 (some .int) ∈ gt := gt_of 1104 (by decide +kernel) rfl
theorem cd_X12_count : Cond.code yX12_count cX12_count 2 (some .int) ∈ gt := gt_of 1255 (by decide +kernel) rfl
theorem cd_X12_counted : Cond.code yX12_counted cX12_counted 2 (some .int) ∈ gt := gt_of 1260 (by decide +kernel) rfl
theorem cd_X12_cuts : Cond.code yX12_cuts cX12_cuts 7 (some .int) ∈ gt := gt_of 1128 (by decide +kernel) rfl
theorem cd_X12_damp : Cond.code yX12_damp cX12_damp 3 (some .int) ∈ gt := gt_of 999 (by decide +kernel) rfl
theorem cd_X12_digest : Cond.code yX12_digest cX12_digest 4 (some .long) ∈ gt := gt_of 1264 (by decide +kernel) rfl
theorem cd_X12_doErrand : Cond.code yX12_doErrand cX12_doErrand 3 (some .int) ∈ gt := gt_of 1096 (by decide +kernel) rfl
theorem cd_X12_drop : Cond.code yX12_drop cX12_drop 1 (some .int) ∈ gt := gt_of 1076 (by decide +kernel) rfl
theorem cd_X12_errand : Cond.code yX12_errand cX12_errand 4 (some .int) ∈ gt := gt_of 1068 (by decide +kernel) rfl
theorem cd_X12_errands : Cond.code yX12_errands cX12_errands 1 (some .int) ∈ gt := gt_of 1072 (by decide +kernel) rfl
theorem cd_X12_factorial : Cond.code yX12_factorial cX12_factorial 3 (some .int) ∈ gt := gt_of 1166 (by decide +kernel) rfl
theorem cd_X12_findFar : Cond.code yX12_findFar cX12_findFar 6 none ∈ gt := gt_of 1116 (by decide +kernel) rfl
theorem cd_X12_findSlacks : Cond.code yX12_findSlacks cX12_findSlacks 6 (some .boolean) ∈ gt := gt_of 1151 (by decide +kernel) rfl
theorem cd_X12_free : Cond.code yX12_free cX12_free 2 (some .int) ∈ gt := gt_of 1143 (by decide +kernel) rfl
theorem cd_X12_from : Cond.code yX12_from cX12_from 3 (some .int) ∈ gt := gt_of 1246 (by decide +kernel) rfl
theorem cd_X12_full : Cond.code yX12_full cX12_full 1 (some .int) ∈ gt := gt_of 976 (by decide +kernel) rfl
theorem cd_X12_giveUp : Cond.code yX12_giveUp cX12_giveUp 4 (some .int) ∈ gt := gt_of 1159 (by decide +kernel) rfl
theorem cd_X12_goOn : Cond.code yX12_goOn cX12_goOn 1 none ∈ gt := gt_of 1214 (by decide +kernel) rfl
theorem cd_X12_goPull : Cond.code yX12_goPull cX12_goPull 2 (some .int) ∈ gt := gt_of 1028 (by decide +kernel) rfl
theorem cd_X12_harmBy : Cond.code yX12_harmBy cX12_harmBy 4 (some .int) ∈ gt := gt_of 1170 (by decide +kernel) rfl
theorem cd_X12_harmOf : Cond.code yX12_harmOf cX12_harmOf 4 (some .int) ∈ gt := gt_of 1100 (by decide +kernel) rfl
theorem cd_X12_harmOfRow : Cond.code yX12_harmOfRow cX12_harmOfRow 5 (some .int) ∈ gt := gt_of 1092 (by decide +kernel) rfl
theorem cd_X12_heard : Cond.code yX12_heard cX12_heard 4 (some .int) ∈ gt := gt_of 1124 (by decide +kernel) rfl
theorem cd_X12_image : Cond.code yX12_image cX12_image 3 (some .int) ∈ gt := gt_of 1242 (by decide +kernel) rfl
theorem cd_X12_in : Cond.code yX12_in cX12_in 6 (some .boolean) ∈ gt := gt_of 963 (by decide +kernel) rfl
theorem cd_X12_isFigure : Cond.code yX12_isFigure cX12_isFigure 1 (some .boolean) ∈ gt := gt_of 1196 (by decide +kernel) rfl
theorem cd_X12_isPull : Cond.code yX12_isPull cX12_isPull 3 (some .boolean) ∈ gt := gt_of 1007 (by decide +kernel) rfl
theorem cd_X12_isSet : Cond.code yX12_isSet cX12_isSet 2 (some .boolean) ∈ gt := gt_of 1108 (by decide +kernel) rfl
theorem cd_X12_isSmall : Cond.code yX12_isSmall cX12_isSmall 1 (some .boolean) ∈ gt := gt_of 1191 (by decide +kernel) rfl
theorem cd_X12_isSo : Cond.code yX12_isSo cX12_isSo 4 (some .boolean) ∈ gt := gt_of 1155 (by decide +kernel) rfl
theorem cd_X12_isThing : Cond.code yX12_isThing cX12_isThing 2 (some .boolean) ∈ gt := gt_of 987 (by decide +kernel) rfl
theorem cd_X12_isWord : Cond.code yX12_isWord cX12_isWord 10 (some .boolean) ∈ gt := gt_of 1206 (by decide +kernel) rfl
theorem cd_X12_layOrder : Cond.code yX12_layOrder cX12_layOrder 5 (some .boolean) ∈ gt := gt_of 1085 (by decide +kernel) rfl
theorem cd_X12_layRule : Cond.code yX12_layRule cX12_layRule 5 none ∈ gt := gt_of 1139 (by decide +kernel) rfl
theorem cd_X12_layThing : Cond.code yX12_layThing cX12_layThing 6 none ∈ gt := gt_of 979 (by decide +kernel) rfl
theorem cd_X12_look : Cond.code yX12_look cX12_look 5 none ∈ gt := gt_of 1188 (by decide +kernel) rfl
theorem cd_X12_moveOf : Cond.code yX12_moveOf cX12_moveOf 3 (some .int) ∈ gt := gt_of 1036 (by decide +kernel) rfl
theorem cd_X12_moves : Cond.code yX12_moves cX12_moves 4 (some .int) ∈ gt := gt_of 1060 (by decide +kernel) rfl
theorem cd_X12_no : Cond.code yX12_no cX12_no 2 (some .int) ∈ gt := gt_of 995 (by decide +kernel) rfl
theorem cd_X12_of : Cond.code yX12_of cX12_of 3 (some .int) ∈ gt := gt_of 991 (by decide +kernel) rfl
theorem cd_X12_onePull : Cond.code yX12_onePull cX12_onePull 3 none ∈ gt := gt_of 1024 (by decide +kernel) rfl
theorem cd_X12_open : Cond.code yX12_open cX12_open 1 (some .int) ∈ gt := gt_of 1056 (by decide +kernel) rfl
theorem cd_X12_order : Cond.code yX12_order cX12_order 6 (some .int) ∈ gt := gt_of 1080 (by decide +kernel) rfl
theorem cd_X12_part : Cond.code yX12_part cX12_part 2 (some .long) ∈ gt := gt_of 1238 (by decide +kernel) rfl
theorem cd_X12_pull : Cond.code yX12_pull cX12_pull 3 (some .int) ∈ gt := gt_of 1003 (by decide +kernel) rfl
theorem cd_X12_read : Cond.code yX12_read cX12_read 3 (some .int) ∈ gt := gt_of 1184 (by decide +kernel) rfl
theorem cd_X12_readsCut : Cond.code yX12_readsCut cX12_readsCut 1 (some .boolean) ∈ gt := gt_of 1222 (by decide +kernel) rfl
theorem cd_X12_readsErrand : Cond.code yX12_readsErrand cX12_readsErrand 2 (some .boolean) ∈ gt := gt_of 1226 (by decide +kernel) rfl
theorem cd_X12_readsItem : Cond.code yX12_readsItem cX12_readsItem 2 (some .boolean) ∈ gt := gt_of 1202 (by decide +kernel) rfl
theorem cd_X12_readsRule : Cond.code yX12_readsRule cX12_readsRule 1 (some .boolean) ∈ gt := gt_of 1234 (by decide +kernel) rfl
theorem cd_X12_readsThing : Cond.code yX12_readsThing cX12_readsThing 1 (some .boolean) ∈ gt := gt_of 1210 (by decide +kernel) rfl
theorem cd_X12_rope : Cond.code yX12_rope cX12_rope 4 (some .int) ∈ gt := gt_of 983 (by decide +kernel) rfl
theorem cd_X12_rule : Cond.code yX12_rule cX12_rule 5 (some .int) ∈ gt := gt_of 1132 (by decide +kernel) rfl
theorem cd_X12_rules : Cond.code yX12_rules cX12_rules 1 (some .int) ∈ gt := gt_of 1136 (by decide +kernel) rfl
theorem cd_X12_share : Cond.code yX12_share cX12_share 11 (some .int) ∈ gt := gt_of 1163 (by decide +kernel) rfl
theorem cd_X12_slack : Cond.code yX12_slack cX12_slack 2 (some .int) ∈ gt := gt_of 1147 (by decide +kernel) rfl
theorem cd_X12_status : Cond.code yX12_status cX12_status 2 (some .int) ∈ gt := gt_of 1250 (by decide +kernel) rfl
theorem cd_X12_sums : Cond.code yX12_sums cX12_sums 8 (some .long) ∈ gt := gt_of 1270 (by decide +kernel) rfl
theorem cd_X12_takeNow : Cond.code yX12_takeNow cX12_takeNow 1 none ∈ gt := gt_of 1012 (by decide +kernel) rfl
theorem cd_X12_takeSlacks : Cond.code yX12_takeSlacks cX12_takeSlacks 4 none ∈ gt := gt_of 1016 (by decide +kernel) rfl
theorem cd_X12_takes : Cond.code yX12_takes cX12_takes 4 (some .boolean) ∈ gt := gt_of 1218 (by decide +kernel) rfl
theorem cd_X12_takesPull : Cond.code yX12_takesPull cX12_takesPull 1 (some .boolean) ∈ gt := gt_of 1230 (by decide +kernel) rfl
theorem cd_X12_thing : Cond.code yX12_thing cX12_thing 5 (some .int) ∈ gt := gt_of 959 (by decide +kernel) rfl
theorem cd_X12_things : Cond.code yX12_things cX12_things 1 (some .int) ∈ gt := gt_of 972 (by decide +kernel) rfl
theorem cd_X12_travel : Cond.code yX12_travel cX12_travel 1 (some .int) ∈ gt := gt_of 1040 (by decide +kernel) rfl
theorem cd_X12_travelOf : Cond.code yX12_travelOf cX12_travelOf 3 (some .int) ∈ gt := gt_of 1044 (by decide +kernel) rfl
theorem cd_X12_type : Cond.code yX12_type cX12_type 5 (some .int) ∈ gt := gt_of 1174 (by decide +kernel) rfl
theorem cd_X12_undo : Cond.code yX12_undo cX12_undo 1 (some .int) ∈ gt := gt_of 1064 (by decide +kernel) rfl
theorem cd_X12_who : Cond.code yX12_who cX12_who 8 (some .int) ∈ gt := gt_of 1120 (by decide +kernel) rfl
theorem cd_X12_wholeNow : Cond.code yX12_wholeNow cX12_wholeNow 3 (some .int) ∈ gt := gt_of 1020 (by decide +kernel) rfl
theorem cd_X12_would : Cond.code yX12_would cX12_would 3 (some .int) ∈ gt := gt_of 1052 (by decide +kernel) rfl
theorem cd_J6_bitCount_0f7a4 : Cond.code yJ6_bitCount_0f7a4 cJ6_bitCount_0f7a4 1 (some .int) ∈ gt := gt_of 748 (by decide +kernel) rfl
theorem cd_J9_abs_0f7a4 : Cond.code yJ9_abs_0f7a4 cJ9_abs_0f7a4 1 (some .int) ∈ gt := gt_of 840 (by decide +kernel) rfl
theorem cd_J9_max_7cf53 : Cond.code yJ9_max_7cf53 cJ9_max_7cf53 2 (some .int) ∈ gt := gt_of 586 (by decide +kernel) rfl
theorem cd_J9_min_7cf53 : Cond.code yJ9_min_7cf53 cJ9_min_7cf53 2 (some .int) ∈ gt := gt_of 439 (by decide +kernel) rfl
theorem cd_J0_charAt_5068e : Cond.code yJ0_charAt_5068e cJ0_charAt_5068e 2 (some .char) ∈ gt := gt_of 478 (by decide +kernel) rfl
theorem cd_J0_checkIndex_df160 : Cond.code yJ0_checkIndex_df160 cJ0_checkIndex_df160 2 none ∈ gt := gt_of 488 (by decide +kernel) rfl
theorem cd_J0_coder_7d493 : Cond.code yJ0_coder_7d493 cJ0_coder_7d493 1 (some .byte) ∈ gt := gt_of 472 (by decide +kernel) rfl
theorem cd_J0_isLatin1_aae02 : Cond.code yJ0_isLatin1_aae02 cJ0_isLatin1_aae02 1 (some .boolean) ∈ gt := gt_of 482 (by decide +kernel) rfl
theorem cd_J0_length_8abf5 : Cond.code yJ0_length_8abf5 cJ0_length_8abf5 1 (some .int) ∈ gt := gt_of 468 (by decide +kernel) rfl
theorem cd_J1_charAt_3b067 : Cond.code yJ1_charAt_3b067 cJ1_charAt_3b067 2 (some .char) ∈ gt := gt_of 485 (by decide +kernel) rfl
theorem cd_J2_charAt_3b067 : Cond.code yJ2_charAt_3b067 cJ2_charAt_3b067 2 (some .char) ∈ gt := gt_of 496 (by decide +kernel) rfl
theorem cd_J2_checkIndex_2214a : Cond.code yJ2_checkIndex_2214a cJ2_checkIndex_2214a 2 none ∈ gt := gt_of 499 (by decide +kernel) rfl
theorem cd_J2_getChar_3b067 : Cond.code yJ2_getChar_3b067 cJ2_getChar_3b067 2 (some .char) ∈ gt := gt_of 506 (by decide +kernel) rfl
theorem cd_J2_length_9d52b : Cond.code yJ2_length_9d52b cJ2_length_9d52b 1 (some .int) ∈ gt := gt_of 502 (by decide +kernel) rfl
theorem cd_J3_checkIndex_8e157 : Cond.code yJ3_checkIndex_8e157 cJ3_checkIndex_8e157 3 (some .int) ∈ gt := gt_of 493 (by decide +kernel) rfl
theorem sf_X11_79 : SF RX11 79 yX11_within cX11_within 3 (some .boolean) 3 := SF.mk (by decide +kernel) (gt_of (w := .methodLink RX11 79 yX11_within) 386 (by decide +kernel) rfl) (gt_of (w := .static yX11_within) 387 (by decide +kernel) rfl) (gt_of (w := .initialized RX11) 1 (by decide +kernel) rfl) cd_X11_within
theorem vf_X11_83 : VF RX11 83 11 yX11_bad cX11_bad 2 (some .int) 1 := VF.mk rfl (by decide +kernel) (gt_of (w := .methodLink RX11 83 yX11_bad) 389 (by decide +kernel) rfl) (gt_of (w := .instanceMethod yX11_bad) 391 (by decide +kernel) rfl) (gt_sel (w := .selects RX11 yX11_bad yX11_bad) 0 (by decide +kernel) rfl) (gt_of (w := .initialized RX11) 1 (by decide +kernel) rfl) cd_X11_bad
theorem vf_X11_90 : VF RX11 90 11 yX11_tooMany cX11_tooMany 1 (some .int) 0 := VF.mk rfl (by decide +kernel) (gt_of (w := .methodLink RX11 90 yX11_tooMany) 393 (by decide +kernel) rfl) (gt_of (w := .instanceMethod yX11_tooMany) 395 (by decide +kernel) rfl) (gt_sel (w := .selects RX11 yX11_tooMany yX11_tooMany) 1 (by decide +kernel) rfl) (gt_of (w := .initialized RX11) 1 (by decide +kernel) rfl) cd_X11_tooMany
theorem vf_X11_94 : VF RX11 94 9 yX9_addThing cX9_addThing 5 none 4 := VF.mk rfl (by decide +kernel) (gt_of (w := .methodLink RX11 94 yX9_addThing) 397 (by decide +kernel) rfl) (gt_of (w := .instanceMethod yX9_addThing) 398 (by decide +kernel) rfl) (gt_of (w := .selects RX9 yX9_addThing yX9_addThing) 399 (by decide +kernel) rfl) (gt_of (w := .initialized RX9) 2 (by decide +kernel) rfl) cd_X9_addThing
theorem vf_X11_98 : VF RX11 98 9 yX9_hasThing cX9_hasThing 2 (some .boolean) 1 := VF.mk rfl (by decide +kernel) (gt_of (w := .methodLink RX11 98 yX9_hasThing) 405 (by decide +kernel) rfl) (gt_of (w := .instanceMethod yX9_hasThing) 406 (by decide +kernel) rfl) (gt_of (w := .selects RX9 yX9_hasThing yX9_hasThing) 407 (by decide +kernel) rfl) (gt_of (w := .initialized RX9) 2 (by decide +kernel) rfl) cd_X9_hasThing
theorem sf_X11_105 : SF RX11 105 yX11_has cX11_has 2 (some .boolean) 2 := SF.mk (by decide +kernel) (gt_of (w := .methodLink RX11 105 yX11_has) 410 (by decide +kernel) rfl) (gt_of (w := .static yX11_has) 411 (by decide +kernel) rfl) (gt_of (w := .initialized RX11) 1 (by decide +kernel) rfl) cd_X11_has
theorem vf_X11_109 : VF RX11 109 11 yX11_refusedNow cX11_refusedNow 1 (some .int) 0 := VF.mk rfl (by decide +kernel) (gt_of (w := .methodLink RX11 109 yX11_refusedNow) 413 (by decide +kernel) rfl) (gt_of (w := .instanceMethod yX11_refusedNow) 415 (by decide +kernel) rfl) (gt_sel (w := .selects RX11 yX11_refusedNow yX11_refusedNow) 2 (by decide +kernel) rfl) (gt_of (w := .initialized RX11) 1 (by decide +kernel) rfl) cd_X11_refusedNow
theorem vf_X11_115 : VF RX11 115 5 yX5_takes cX5_takes 4 (some .boolean) 2 := VF.mk rfl (by decide +kernel) (gt_of (w := .methodLink RX11 115 yX5_takes) 433 (by decide +kernel) rfl) (gt_of (w := .instanceMethod yX5_takes) 434 (by decide +kernel) rfl) (gt_of (w := .selects RX5 yX5_takes yX5_takes) 435 (by decide +kernel) rfl) (gt_of (w := .initialized RX5) 12 (by decide +kernel) rfl) cd_X5_takes
theorem vf_X11_125 : VF RX11 125 9 yX9_becomeLike cX9_becomeLike 2 none 1 := VF.mk rfl (by decide +kernel) (gt_of (w := .methodLink RX11 125 yX9_becomeLike) 556 (by decide +kernel) rfl) (gt_of (w := .instanceMethod yX9_becomeLike) 557 (by decide +kernel) rfl) (gt_of (w := .selects RX9 yX9_becomeLike yX9_becomeLike) 558 (by decide +kernel) rfl) (gt_of (w := .initialized RX9) 2 (by decide +kernel) rfl) cd_X9_becomeLike
theorem vf_X11_132 : VF RX11 132 11 yX11_isPull cX11_isPull 3 (some .boolean) 2 := VF.mk rfl (by decide +kernel) (gt_of (w := .methodLink RX11 132 yX11_isPull) 568 (by decide +kernel) rfl) (gt_of (w := .instanceMethod yX11_isPull) 570 (by decide +kernel) rfl) (gt_sel (w := .selects RX11 yX11_isPull yX11_isPull) 15 (by decide +kernel) rfl) (gt_of (w := .initialized RX11) 1 (by decide +kernel) rfl) cd_X11_isPull
theorem vf_X11_135 : VF RX11 135 8 yX8_by cX8_by 12 none 6 := VF.mk rfl (by decide +kernel) (gt_of (w := .methodLink RX11 135 yX8_by) 572 (by decide +kernel) rfl) (gt_of (w := .instanceMethod yX8_by) 573 (by decide +kernel) rfl) (gt_of (w := .selects RX8 yX8_by yX8_by) 574 (by decide +kernel) rfl) (gt_of (w := .initialized RX8) 9 (by decide +kernel) rfl) cd_X8_by
theorem vf_X11_139 : VF RX11 139 11 yX11_doSwing cX11_doSwing 1 (some .int) 0 := VF.mk rfl (by decide +kernel) (gt_of (w := .methodLink RX11 139 yX11_doSwing) 617 (by decide +kernel) rfl) (gt_of (w := .instanceMethod yX11_doSwing) 619 (by decide +kernel) rfl) (gt_sel (w := .selects RX11 yX11_doSwing yX11_doSwing) 16 (by decide +kernel) rfl) (gt_of (w := .initialized RX11) 1 (by decide +kernel) rfl) cd_X11_doSwing
theorem vf_X11_145 : VF RX11 145 8 yX8_behind cX8_behind 2 (some .int) 1 := VF.mk rfl (by decide +kernel) (gt_of (w := .methodLink RX11 145 yX8_behind) 625 (by decide +kernel) rfl) (gt_of (w := .instanceMethod yX8_behind) 626 (by decide +kernel) rfl) (gt_of (w := .selects RX8 yX8_behind yX8_behind) 627 (by decide +kernel) rfl) (gt_of (w := .initialized RX8) 9 (by decide +kernel) rfl) cd_X8_behind
theorem vf_X11_148 : VF RX11 148 8 yX8_moveOf cX8_moveOf 4 (some .int) 3 := VF.mk rfl (by decide +kernel) (gt_of (w := .methodLink RX11 148 yX8_moveOf) 649 (by decide +kernel) rfl) (gt_of (w := .instanceMethod yX8_moveOf) 593 (by decide +kernel) rfl) (gt_of (w := .selects RX8 yX8_moveOf yX8_moveOf) 594 (by decide +kernel) rfl) (gt_of (w := .initialized RX8) 9 (by decide +kernel) rfl) cd_X8_moveOf
theorem vf_X11_155 : VF RX11 155 9 yX9_goBack cX9_goBack 1 none 0 := VF.mk rfl (by decide +kernel) (gt_of (w := .methodLink RX11 155 yX9_goBack) 654 (by decide +kernel) rfl) (gt_of (w := .instanceMethod yX9_goBack) 655 (by decide +kernel) rfl) (gt_of (w := .selects RX9 yX9_goBack yX9_goBack) 656 (by decide +kernel) rfl) (gt_of (w := .initialized RX9) 2 (by decide +kernel) rfl) cd_X9_goBack
theorem vf_X11_161 : VF RX11 161 9 yX9_addErrand cX9_addErrand 3 none 2 := VF.mk rfl (by decide +kernel) (gt_of (w := .methodLink RX11 161 yX9_addErrand) 662 (by decide +kernel) rfl) (gt_of (w := .instanceMethod yX9_addErrand) 540 (by decide +kernel) rfl) (gt_of (w := .selects RX9 yX9_addErrand yX9_addErrand) 541 (by decide +kernel) rfl) (gt_of (w := .initialized RX9) 2 (by decide +kernel) rfl) cd_X9_addErrand
theorem vf_X11_165 : VF RX11 165 0 yX0_findOrder cX0_findOrder 2 none 1 := VF.mk rfl (by decide +kernel) (gt_of (w := .methodLink RX11 165 yX0_findOrder) 671 (by decide +kernel) rfl) (gt_of (w := .instanceMethod yX0_findOrder) 672 (by decide +kernel) rfl) (gt_of (w := .selects RX0 yX0_findOrder yX0_findOrder) 673 (by decide +kernel) rfl) (gt_of (w := .initialized RX0) 10 (by decide +kernel) rfl) cd_X0_findOrder
theorem vf_X11_174 : VF RX11 174 9 yX9_hasSet cX9_hasSet 2 (some .boolean) 1 := VF.mk rfl (by decide +kernel) (gt_of (w := .methodLink RX11 174 yX9_hasSet) 701 (by decide +kernel) rfl) (gt_of (w := .instanceMethod yX9_hasSet) 702 (by decide +kernel) rfl) (gt_of (w := .selects RX9 yX9_hasSet yX9_hasSet) 703 (by decide +kernel) rfl) (gt_of (w := .initialized RX9) 2 (by decide +kernel) rfl) cd_X9_hasSet
theorem vf_X11_177 : VF RX11 177 0 yX0_findCodes cX0_findCodes 7 none 1 := VF.mk rfl (by decide +kernel) (gt_of (w := .methodLink RX11 177 yX0_findCodes) 705 (by decide +kernel) rfl) (gt_of (w := .instanceMethod yX0_findCodes) 706 (by decide +kernel) rfl) (gt_of (w := .selects RX0 yX0_findCodes yX0_findCodes) 707 (by decide +kernel) rfl) (gt_of (w := .initialized RX0) 10 (by decide +kernel) rfl) cd_X0_findCodes
theorem vf_X11_183 : VF RX11 183 0 yX0_stepTo cX0_stepTo 5 (some .int) 2 := VF.mk rfl (by decide +kernel) (gt_of (w := .methodLink RX11 183 yX0_stepTo) 709 (by decide +kernel) rfl) (gt_of (w := .instanceMethod yX0_stepTo) 710 (by decide +kernel) rfl) (gt_of (w := .selects RX0 yX0_stepTo yX0_stepTo) 711 (by decide +kernel) rfl) (gt_of (w := .initialized RX0) 10 (by decide +kernel) rfl) cd_X0_stepTo
theorem vf_X11_187 : VF RX11 187 0 yX0_findEnds cX0_findEnds 4 none 1 := VF.mk rfl (by decide +kernel) (gt_of (w := .methodLink RX11 187 yX0_findEnds) 717 (by decide +kernel) rfl) (gt_of (w := .instanceMethod yX0_findEnds) 718 (by decide +kernel) rfl) (gt_of (w := .selects RX0 yX0_findEnds yX0_findEnds) 719 (by decide +kernel) rfl) (gt_of (w := .initialized RX0) 10 (by decide +kernel) rfl) cd_X0_findEnds
theorem vf_X11_190 : VF RX11 190 0 yX0_howManyEndAt cX0_howManyEndAt 4 (some .int) 1 := VF.mk rfl (by decide +kernel) (gt_of (w := .methodLink RX11 190 yX0_howManyEndAt) 721 (by decide +kernel) rfl) (gt_of (w := .instanceMethod yX0_howManyEndAt) 722 (by decide +kernel) rfl) (gt_of (w := .selects RX0 yX0_howManyEndAt yX0_howManyEndAt) 723 (by decide +kernel) rfl) (gt_of (w := .initialized RX0) 10 (by decide +kernel) rfl) cd_X0_howManyEndAt
theorem vf_X11_193 : VF RX11 193 0 yX0_leastThatEndsAt cX0_leastThatEndsAt 3 (some .int) 1 := VF.mk rfl (by decide +kernel) (gt_of (w := .methodLink RX11 193 yX0_leastThatEndsAt) 725 (by decide +kernel) rfl) (gt_of (w := .instanceMethod yX0_leastThatEndsAt) 726 (by decide +kernel) rfl) (gt_of (w := .selects RX0 yX0_leastThatEndsAt yX0_leastThatEndsAt) 727 (by decide +kernel) rfl) (gt_of (w := .initialized RX0) 10 (by decide +kernel) rfl) cd_X0_leastThatEndsAt
theorem vf_X11_196 : VF RX11 196 0 yX0_look cX0_look 4 none 2 := VF.mk rfl (by decide +kernel) (gt_of (w := .methodLink RX11 196 yX0_look) 733 (by decide +kernel) rfl) (gt_of (w := .instanceMethod yX0_look) 676 (by decide +kernel) rfl) (gt_of (w := .selects RX0 yX0_look yX0_look) 677 (by decide +kernel) rfl) (gt_of (w := .initialized RX0) 10 (by decide +kernel) rfl) cd_X0_look
theorem vf_X11_200 : VF RX11 200 0 yX0_thatRing cX0_thatRing 4 (some .int) 1 := VF.mk rfl (by decide +kernel) (gt_of (w := .methodLink RX11 200 yX0_thatRing) 734 (by decide +kernel) rfl) (gt_of (w := .instanceMethod yX0_thatRing) 735 (by decide +kernel) rfl) (gt_of (w := .selects RX0 yX0_thatRing yX0_thatRing) 736 (by decide +kernel) rfl) (gt_of (w := .initialized RX0) 10 (by decide +kernel) rfl) cd_X0_thatRing
theorem vf_X11_203 : VF RX11 203 0 yX0_fewestCuts cX0_fewestCuts 6 (some .int) 2 := VF.mk rfl (by decide +kernel) (gt_of (w := .methodLink RX11 203 yX0_fewestCuts) 742 (by decide +kernel) rfl) (gt_of (w := .instanceMethod yX0_fewestCuts) 743 (by decide +kernel) rfl) (gt_of (w := .selects RX0 yX0_fewestCuts yX0_fewestCuts) 744 (by decide +kernel) rfl) (gt_of (w := .initialized RX0) 10 (by decide +kernel) rfl) cd_X0_fewestCuts
theorem vf_X11_210 : VF RX11 210 9 yX9_addRule cX9_addRule 4 none 3 := VF.mk rfl (by decide +kernel) (gt_of (w := .methodLink RX11 210 yX9_addRule) 760 (by decide +kernel) rfl) (gt_of (w := .instanceMethod yX9_addRule) 549 (by decide +kernel) rfl) (gt_of (w := .selects RX9 yX9_addRule yX9_addRule) 550 (by decide +kernel) rfl) (gt_of (w := .initialized RX9) 2 (by decide +kernel) rfl) cd_X9_addRule
theorem vf_X11_214 : VF RX11 214 6 yX6_learn cX6_learn 5 none 1 := VF.mk rfl (by decide +kernel) (gt_of (w := .methodLink RX11 214 yX6_learn) 769 (by decide +kernel) rfl) (gt_of (w := .instanceMethod yX6_learn) 770 (by decide +kernel) rfl) (gt_of (w := .selects RX6 yX6_learn yX6_learn) 771 (by decide +kernel) rfl) (gt_of (w := .initialized RX6) 11 (by decide +kernel) rfl) cd_X6_learn
theorem vf_X11_217 : VF RX11 217 6 yX6_fitsWithout cX6_fitsWithout 3 (some .boolean) 1 := VF.mk rfl (by decide +kernel) (gt_of (w := .methodLink RX11 217 yX6_fitsWithout) 785 (by decide +kernel) rfl) (gt_of (w := .instanceMethod yX6_fitsWithout) 786 (by decide +kernel) rfl) (gt_of (w := .selects RX6 yX6_fitsWithout yX6_fitsWithout) 787 (by decide +kernel) rfl) (gt_of (w := .initialized RX6) 11 (by decide +kernel) rfl) cd_X6_fitsWithout
theorem vf_X11_223 : VF RX11 223 6 yX6_fewestGivenUp cX6_fewestGivenUp 4 (some .int) 0 := VF.mk rfl (by decide +kernel) (gt_of (w := .methodLink RX11 223 yX6_fewestGivenUp) 814 (by decide +kernel) rfl) (gt_of (w := .instanceMethod yX6_fewestGivenUp) 815 (by decide +kernel) rfl) (gt_of (w := .selects RX6 yX6_fewestGivenUp yX6_fewestGivenUp) 816 (by decide +kernel) rfl) (gt_of (w := .initialized RX6) 11 (by decide +kernel) rfl) cd_X6_fewestGivenUp
theorem vf_X11_226 : VF RX11 226 0 yX0_findHarmOfRopes cX0_findHarmOfRopes 5 none 1 := VF.mk rfl (by decide +kernel) (gt_of (w := .methodLink RX11 226 yX0_findHarmOfRopes) 824 (by decide +kernel) rfl) (gt_of (w := .instanceMethod yX0_findHarmOfRopes) 825 (by decide +kernel) rfl) (gt_of (w := .selects RX0 yX0_findHarmOfRopes yX0_findHarmOfRopes) 826 (by decide +kernel) rfl) (gt_of (w := .initialized RX0) 10 (by decide +kernel) rfl) cd_X0_findHarmOfRopes
theorem vf_X11_229 : VF RX11 229 0 yX0_weighShare cX0_weighShare 6 none 2 := VF.mk rfl (by decide +kernel) (gt_of (w := .methodLink RX11 229 yX0_weighShare) 828 (by decide +kernel) rfl) (gt_of (w := .instanceMethod yX0_weighShare) 829 (by decide +kernel) rfl) (gt_of (w := .selects RX0 yX0_weighShare yX0_weighShare) 830 (by decide +kernel) rfl) (gt_of (w := .initialized RX0) 10 (by decide +kernel) rfl) cd_X0_weighShare
theorem vf_X11_238 : VF RX11 238 11 yX11_keepFraction cX11_keepFraction 7 none 2 := VF.mk rfl (by decide +kernel) (gt_of (w := .methodLink RX11 238 yX11_keepFraction) 834 (by decide +kernel) rfl) (gt_of (w := .instanceMethod yX11_keepFraction) 836 (by decide +kernel) rfl) (gt_sel (w := .selects RX11 yX11_keepFraction yX11_keepFraction) 27 (by decide +kernel) rfl) (gt_of (w := .initialized RX11) 1 (by decide +kernel) rfl) cd_X11_keepFraction
theorem vf_X11_241 : VF RX11 241 11 yX11_howMany cX11_howMany 2 (some .int) 1 := VF.mk rfl (by decide +kernel) (gt_of (w := .methodLink RX11 241 yX11_howMany) 861 (by decide +kernel) rfl) (gt_of (w := .instanceMethod yX11_howMany) 863 (by decide +kernel) rfl) (gt_sel (w := .selects RX11 yX11_howMany yX11_howMany) 28 (by decide +kernel) rfl) (gt_of (w := .initialized RX11) 1 (by decide +kernel) rfl) cd_X11_howMany
theorem vf_X11_248 : VF RX11 248 9 yX9_mixInto cX9_mixInto 6 (some .long) 1 := VF.mk rfl (by decide +kernel) (gt_of (w := .methodLink RX11 248 yX9_mixInto) 872 (by decide +kernel) rfl) (gt_of (w := .instanceMethod yX9_mixInto) 873 (by decide +kernel) rfl) (gt_of (w := .selects RX9 yX9_mixInto yX9_mixInto) 874 (by decide +kernel) rfl) (gt_of (w := .initialized RX9) 2 (by decide +kernel) rfl) cd_X9_mixInto
theorem vf_X11_252 : VF RX11 252 9 yX9_remember cX9_remember 1 none 0 := VF.mk rfl (by decide +kernel) (gt_of (w := .methodLink RX11 252 yX9_remember) 621 (by decide +kernel) rfl) (gt_of (w := .instanceMethod yX9_remember) 622 (by decide +kernel) rfl) (gt_of (w := .selects RX9 yX9_remember yX9_remember) 623 (by decide +kernel) rfl) (gt_of (w := .initialized RX9) 2 (by decide +kernel) rfl) cd_X9_remember
theorem vf_X11_255 : VF RX11 255 8 yX8_rings cX8_rings 1 (some .int) 0 := VF.mk rfl (by decide +kernel) (gt_of (w := .methodLink RX11 255 yX8_rings) 629 (by decide +kernel) rfl) (gt_of (w := .instanceMethod yX8_rings) 630 (by decide +kernel) rfl) (gt_of (w := .selects RX8 yX8_rings yX8_rings) 631 (by decide +kernel) rfl) (gt_of (w := .initialized RX8) 9 (by decide +kernel) rfl) cd_X8_rings
theorem tf_X11_258 : TF RX11 258 yJ6_bitCount_0f7a4 cJ6_bitCount_0f7a4 1 (some .int) 1 := TF.mk (by decide +kernel) (gt_of (w := .methodLink RX11 258 yJ6_bitCount_0f7a4) 865 (by decide +kernel) rfl) (gt_of (w := .static yJ6_bitCount_0f7a4) 747 (by decide +kernel) rfl) (gt_of (w := .initialized RJ6) 20 (by decide +kernel) rfl) cd_J6_bitCount_0f7a4
theorem tf_X11_263 : TF RX11 263 yJ9_abs_0f7a4 cJ9_abs_0f7a4 1 (some .int) 1 := TF.mk (by decide +kernel) (gt_of (w := .methodLink RX11 263 yJ9_abs_0f7a4) 838 (by decide +kernel) rfl) (gt_of (w := .static yJ9_abs_0f7a4) 839 (by decide +kernel) rfl) (gt_of (w := .initialized RJ9) 14 (by decide +kernel) rfl) cd_J9_abs_0f7a4
theorem vf_X0_71 : VF RX0 71 8 yX8_by cX8_by 12 none 6 := VF.mk rfl (by decide +kernel) (gt_of (w := .methodLink RX0 71 yX8_by) 679 (by decide +kernel) rfl) (gt_of (w := .instanceMethod yX8_by) 573 (by decide +kernel) rfl) (gt_of (w := .selects RX8 yX8_by yX8_by) 574 (by decide +kernel) rfl) (gt_of (w := .initialized RX8) 9 (by decide +kernel) rfl) cd_X8_by
theorem vf_X0_81 : VF RX0 81 8 yX8_rings cX8_rings 1 (some .int) 0 := VF.mk rfl (by decide +kernel) (gt_of (w := .methodLink RX0 81 yX8_rings) 680 (by decide +kernel) rfl) (gt_of (w := .instanceMethod yX8_rings) 630 (by decide +kernel) rfl) (gt_of (w := .selects RX8 yX8_rings yX8_rings) 631 (by decide +kernel) rfl) (gt_of (w := .initialized RX8) 9 (by decide +kernel) rfl) cd_X8_rings
theorem vf_X0_87 : VF RX0 87 0 yX0_look cX0_look 4 none 2 := VF.mk rfl (by decide +kernel) (gt_of (w := .methodLink RX0 87 yX0_look) 675 (by decide +kernel) rfl) (gt_of (w := .instanceMethod yX0_look) 676 (by decide +kernel) rfl) (gt_of (w := .selects RX0 yX0_look yX0_look) 677 (by decide +kernel) rfl) (gt_of (w := .initialized RX0) 10 (by decide +kernel) rfl) cd_X0_look
theorem vf_X0_95 : VF RX0 95 0 yX0_findRest cX0_findRest 9 none 5 := VF.mk rfl (by decide +kernel) (gt_of (w := .methodLink RX0 95 yX0_findRest) 682 (by decide +kernel) rfl) (gt_of (w := .instanceMethod yX0_findRest) 684 (by decide +kernel) rfl) (gt_sel (w := .selects RX0 yX0_findRest yX0_findRest) 17 (by decide +kernel) rfl) (gt_of (w := .initialized RX0) 10 (by decide +kernel) rfl) cd_X0_findRest
theorem vf_X0_109 : VF RX0 109 0 yX0_behind cX0_behind 3 (some .int) 2 := VF.mk rfl (by decide +kernel) (gt_of (w := .methodLink RX0 109 yX0_behind) 688 (by decide +kernel) rfl) (gt_of (w := .instanceMethod yX0_behind) 690 (by decide +kernel) rfl) (gt_sel (w := .selects RX0 yX0_behind yX0_behind) 18 (by decide +kernel) rfl) (gt_of (w := .initialized RX0) 10 (by decide +kernel) rfl) cd_X0_behind
theorem vf_X0_113 : VF RX0 113 9 yX9_harmOf cX9_harmOf 4 (some .int) 1 := VF.mk rfl (by decide +kernel) (gt_of (w := .methodLink RX0 113 yX9_harmOf) 692 (by decide +kernel) rfl) (gt_of (w := .instanceMethod yX9_harmOf) 693 (by decide +kernel) rfl) (gt_of (w := .selects RX9 yX9_harmOf yX9_harmOf) 694 (by decide +kernel) rfl) (gt_of (w := .initialized RX9) 2 (by decide +kernel) rfl) cd_X9_harmOf
theorem tf_X0_120 : TF RX0 120 yJ6_bitCount_0f7a4 cJ6_bitCount_0f7a4 1 (some .int) 1 := TF.mk (by decide +kernel) (gt_of (w := .methodLink RX0 120 yJ6_bitCount_0f7a4) 746 (by decide +kernel) rfl) (gt_of (w := .static yJ6_bitCount_0f7a4) 747 (by decide +kernel) rfl) (gt_of (w := .initialized RJ6) 20 (by decide +kernel) rfl) cd_J6_bitCount_0f7a4
theorem vf_X0_125 : VF RX0 125 0 yX0_anyOpens cX0_anyOpens 4 (some .boolean) 2 := VF.mk rfl (by decide +kernel) (gt_of (w := .methodLink RX0 125 yX0_anyOpens) 752 (by decide +kernel) rfl) (gt_of (w := .instanceMethod yX0_anyOpens) 754 (by decide +kernel) rfl) (gt_sel (w := .selects RX0 yX0_anyOpens yX0_anyOpens) 19 (by decide +kernel) rfl) (gt_of (w := .initialized RX0) 10 (by decide +kernel) rfl) cd_X0_anyOpens
theorem tf_X5_44 : TF RX5 44 yJ9_min_7cf53 cJ9_min_7cf53 2 (some .int) 2 := TF.mk (by decide +kernel) (gt_of (w := .methodLink RX5 44 yJ9_min_7cf53) 437 (by decide +kernel) rfl) (gt_of (w := .static yJ9_min_7cf53) 438 (by decide +kernel) rfl) (gt_of (w := .initialized RJ9) 14 (by decide +kernel) rfl) cd_J9_min_7cf53
theorem vf_X5_50 : VF RX5 50 9 yX9_becomeEmpty cX9_becomeEmpty 1 none 0 := VF.mk rfl (by decide +kernel) (gt_of (w := .methodLink RX5 50 yX9_becomeEmpty) 440 (by decide +kernel) rfl) (gt_of (w := .instanceMethod yX9_becomeEmpty) 441 (by decide +kernel) rfl) (gt_of (w := .selects RX9 yX9_becomeEmpty yX9_becomeEmpty) 442 (by decide +kernel) rfl) (gt_of (w := .initialized RX9) 2 (by decide +kernel) rfl) cd_X9_becomeEmpty
theorem vf_X5_53 : VF RX5 53 5 yX5_nextToken cX5_nextToken 1 none 0 := VF.mk rfl (by decide +kernel) (gt_of (w := .methodLink RX5 53 yX5_nextToken) 444 (by decide +kernel) rfl) (gt_of (w := .instanceMethod yX5_nextToken) 446 (by decide +kernel) rfl) (gt_sel (w := .selects RX5 yX5_nextToken yX5_nextToken) 3 (by decide +kernel) rfl) (gt_of (w := .initialized RX5) 12 (by decide +kernel) rfl) cd_X5_nextToken
theorem vf_X5_56 : VF RX5 56 5 yX5_takesItem cX5_takesItem 1 (some .boolean) 0 := VF.mk rfl (by decide +kernel) (gt_of (w := .methodLink RX5 56 yX5_takesItem) 456 (by decide +kernel) rfl) (gt_of (w := .instanceMethod yX5_takesItem) 458 (by decide +kernel) rfl) (gt_sel (w := .selects RX5 yX5_takesItem yX5_takesItem) 6 (by decide +kernel) rfl) (gt_of (w := .initialized RX5) 12 (by decide +kernel) rfl) cd_X5_takesItem
theorem vf_X5_60 : VF RX5 60 5 yX5_takesEndOfItem cX5_takesEndOfItem 1 (some .boolean) 0 := VF.mk rfl (by decide +kernel) (gt_of (w := .methodLink RX5 60 yX5_takesEndOfItem) 552 (by decide +kernel) rfl) (gt_of (w := .instanceMethod yX5_takesEndOfItem) 554 (by decide +kernel) rfl) (gt_sel (w := .selects RX5 yX5_takesEndOfItem yX5_takesEndOfItem) 14 (by decide +kernel) rfl) (gt_of (w := .initialized RX5) 12 (by decide +kernel) rfl) cd_X5_takesEndOfItem
theorem vf_X5_65 : VF RX5 65 5 yX5_isWord cX5_isWord 3 (some .boolean) 1 := VF.mk rfl (by decide +kernel) (gt_of (w := .methodLink RX5 65 yX5_isWord) 461 (by decide +kernel) rfl) (gt_of (w := .instanceMethod yX5_isWord) 463 (by decide +kernel) rfl) (gt_sel (w := .selects RX5 yX5_isWord yX5_isWord) 7 (by decide +kernel) rfl) (gt_of (w := .initialized RX5) 12 (by decide +kernel) rfl) cd_X5_isWord
theorem vf_X5_69 : VF RX5 69 5 yX5_takesThing cX5_takesThing 2 (some .boolean) 0 := VF.mk rfl (by decide +kernel) (gt_of (w := .methodLink RX5 69 yX5_takesThing) 513 (by decide +kernel) rfl) (gt_of (w := .instanceMethod yX5_takesThing) 515 (by decide +kernel) rfl) (gt_sel (w := .selects RX5 yX5_takesThing yX5_takesThing) 8 (by decide +kernel) rfl) (gt_of (w := .initialized RX5) 12 (by decide +kernel) rfl) cd_X5_takesThing
theorem vf_X5_74 : VF RX5 74 5 yX5_takesCut cX5_takesCut 1 (some .boolean) 0 := VF.mk rfl (by decide +kernel) (gt_of (w := .methodLink RX5 74 yX5_takesCut) 524 (by decide +kernel) rfl) (gt_of (w := .instanceMethod yX5_takesCut) 526 (by decide +kernel) rfl) (gt_sel (w := .selects RX5 yX5_takesCut yX5_takesCut) 10 (by decide +kernel) rfl) (gt_of (w := .initialized RX5) 12 (by decide +kernel) rfl) cd_X5_takesCut
theorem vf_X5_79 : VF RX5 79 5 yX5_takesDamp cX5_takesDamp 1 (some .boolean) 0 := VF.mk rfl (by decide +kernel) (gt_of (w := .methodLink RX5 79 yX5_takesDamp) 530 (by decide +kernel) rfl) (gt_of (w := .instanceMethod yX5_takesDamp) 532 (by decide +kernel) rfl) (gt_sel (w := .selects RX5 yX5_takesDamp yX5_takesDamp) 11 (by decide +kernel) rfl) (gt_of (w := .initialized RX5) 12 (by decide +kernel) rfl) cd_X5_takesDamp
theorem vf_X5_84 : VF RX5 84 5 yX5_takesErrand cX5_takesErrand 2 (some .boolean) 0 := VF.mk rfl (by decide +kernel) (gt_of (w := .methodLink RX5 84 yX5_takesErrand) 535 (by decide +kernel) rfl) (gt_of (w := .instanceMethod yX5_takesErrand) 537 (by decide +kernel) rfl) (gt_sel (w := .selects RX5 yX5_takesErrand yX5_takesErrand) 12 (by decide +kernel) rfl) (gt_of (w := .initialized RX5) 12 (by decide +kernel) rfl) cd_X5_takesErrand
theorem vf_X5_89 : VF RX5 89 5 yX5_takesRule cX5_takesRule 2 (some .boolean) 0 := VF.mk rfl (by decide +kernel) (gt_of (w := .methodLink RX5 89 yX5_takesRule) 544 (by decide +kernel) rfl) (gt_of (w := .instanceMethod yX5_takesRule) 546 (by decide +kernel) rfl) (gt_sel (w := .selects RX5 yX5_takesRule yX5_takesRule) 13 (by decide +kernel) rfl) (gt_of (w := .initialized RX5) 12 (by decide +kernel) rfl) cd_X5_takesRule
theorem vf_X5_95 : VF RX5 95 5 yX5_takesNumber cX5_takesNumber 4 (some .boolean) 3 := VF.mk rfl (by decide +kernel) (gt_of (w := .methodLink RX5 95 yX5_takesNumber) 517 (by decide +kernel) rfl) (gt_of (w := .instanceMethod yX5_takesNumber) 519 (by decide +kernel) rfl) (gt_sel (w := .selects RX5 yX5_takesNumber yX5_takesNumber) 9 (by decide +kernel) rfl) (gt_of (w := .initialized RX5) 12 (by decide +kernel) rfl) cd_X5_takesNumber
theorem vf_X5_99 : VF RX5 99 9 yX9_addThing cX9_addThing 5 none 4 := VF.mk rfl (by decide +kernel) (gt_of (w := .methodLink RX5 99 yX9_addThing) 522 (by decide +kernel) rfl) (gt_of (w := .instanceMethod yX9_addThing) 398 (by decide +kernel) rfl) (gt_of (w := .selects RX9 yX9_addThing yX9_addThing) 399 (by decide +kernel) rfl) (gt_of (w := .initialized RX9) 2 (by decide +kernel) rfl) cd_X9_addThing
theorem vf_X5_115 : VF RX5 115 9 yX9_addErrand cX9_addErrand 3 none 2 := VF.mk rfl (by decide +kernel) (gt_of (w := .methodLink RX5 115 yX9_addErrand) 539 (by decide +kernel) rfl) (gt_of (w := .instanceMethod yX9_addErrand) 540 (by decide +kernel) rfl) (gt_of (w := .selects RX9 yX9_addErrand yX9_addErrand) 541 (by decide +kernel) rfl) (gt_of (w := .initialized RX9) 2 (by decide +kernel) rfl) cd_X9_addErrand
theorem vf_X5_122 : VF RX5 122 9 yX9_addRule cX9_addRule 4 none 3 := VF.mk rfl (by decide +kernel) (gt_of (w := .methodLink RX5 122 yX9_addRule) 548 (by decide +kernel) rfl) (gt_of (w := .instanceMethod yX9_addRule) 549 (by decide +kernel) rfl) (gt_of (w := .selects RX9 yX9_addRule yX9_addRule) 550 (by decide +kernel) rfl) (gt_of (w := .initialized RX9) 2 (by decide +kernel) rfl) cd_X9_addRule
theorem vf_X5_129 : VF RX5 129 5 yX5_endOfRun cX5_endOfRun 5 (some .int) 3 := VF.mk rfl (by decide +kernel) (gt_of (w := .methodLink RX5 129 yX5_endOfRun) 448 (by decide +kernel) rfl) (gt_of (w := .instanceMethod yX5_endOfRun) 450 (by decide +kernel) rfl) (gt_sel (w := .selects RX5 yX5_endOfRun yX5_endOfRun) 4 (by decide +kernel) rfl) (gt_of (w := .initialized RX5) 12 (by decide +kernel) rfl) cd_X5_endOfRun
theorem vf_X5_133 : VF RX5 133 5 yX5_takeFigures cX5_takeFigures 2 none 0 := VF.mk rfl (by decide +kernel) (gt_of (w := .methodLink RX5 133 yX5_takeFigures) 452 (by decide +kernel) rfl) (gt_of (w := .instanceMethod yX5_takeFigures) 454 (by decide +kernel) rfl) (gt_sel (w := .selects RX5 yX5_takeFigures yX5_takeFigures) 5 (by decide +kernel) rfl) (gt_of (w := .initialized RX5) 12 (by decide +kernel) rfl) cd_X5_takeFigures
theorem vf_X6_49 : VF RX6 49 6 yX6_isSo cX6_isSo 7 (some .boolean) 4 := VF.mk rfl (by decide +kernel) (gt_of (w := .methodLink RX6 49 yX6_isSo) 773 (by decide +kernel) rfl) (gt_of (w := .instanceMethod yX6_isSo) 775 (by decide +kernel) rfl) (gt_sel (w := .selects RX6 yX6_isSo yX6_isSo) 20 (by decide +kernel) rfl) (gt_of (w := .initialized RX6) 11 (by decide +kernel) rfl) cd_X6_isSo
theorem vf_X6_53 : VF RX6 53 6 yX6_sumsFor cX6_sumsFor 6 (some .int) 3 := VF.mk rfl (by decide +kernel) (gt_of (w := .methodLink RX6 53 yX6_sumsFor) 781 (by decide +kernel) rfl) (gt_of (w := .instanceMethod yX6_sumsFor) 783 (by decide +kernel) rfl) (gt_sel (w := .selects RX6 yX6_sumsFor yX6_sumsFor) 21 (by decide +kernel) rfl) (gt_of (w := .initialized RX6) 11 (by decide +kernel) rfl) cd_X6_sumsFor
theorem tf_X6_60 : TF RX6 60 yJ9_max_7cf53 cJ9_max_7cf53 2 (some .int) 2 := TF.mk (by decide +kernel) (gt_of (w := .methodLink RX6 60 yJ9_max_7cf53) 777 (by decide +kernel) rfl) (gt_of (w := .static yJ9_max_7cf53) 585 (by decide +kernel) rfl) (gt_of (w := .initialized RJ9) 14 (by decide +kernel) rfl) cd_J9_max_7cf53
theorem vf_X6_69 : VF RX6 69 2 yX2_ofNumber cX2_ofNumber 2 (some (.object "OneBell$Door")) 1 := VF.mk rfl (by decide +kernel) (gt_of (w := .methodLink RX6 69 yX2_ofNumber) 778 (by decide +kernel) rfl) (gt_of (w := .instanceMethod yX2_ofNumber) 589 (by decide +kernel) rfl) (gt_of (w := .selects RX2 yX2_ofNumber yX2_ofNumber) 590 (by decide +kernel) rfl) (gt_of (w := .initialized RX2) 3 (by decide +kernel) rfl) cd_X2_ofNumber
theorem tf_X6_91 : TF RX6 91 yJ6_bitCount_0f7a4 cJ6_bitCount_0f7a4 1 (some .int) 1 := TF.mk (by decide +kernel) (gt_of (w := .methodLink RX6 91 yJ6_bitCount_0f7a4) 818 (by decide +kernel) rfl) (gt_of (w := .static yJ6_bitCount_0f7a4) 747 (by decide +kernel) rfl) (gt_of (w := .initialized RJ6) 20 (by decide +kernel) rfl) cd_J6_bitCount_0f7a4
theorem vf_X6_97 : VF RX6 97 6 yX6_fitsWithout cX6_fitsWithout 3 (some .boolean) 1 := VF.mk rfl (by decide +kernel) (gt_of (w := .methodLink RX6 97 yX6_fitsWithout) 819 (by decide +kernel) rfl) (gt_of (w := .instanceMethod yX6_fitsWithout) 786 (by decide +kernel) rfl) (gt_of (w := .selects RX6 yX6_fitsWithout yX6_fitsWithout) 787 (by decide +kernel) rfl) (gt_of (w := .initialized RX6) 11 (by decide +kernel) rfl) cd_X6_fitsWithout
theorem vf_X6_102 : VF RX6 102 6 yX6_narrowPairs cX6_narrowPairs 5 none 1 := VF.mk rfl (by decide +kernel) (gt_of (w := .methodLink RX6 102 yX6_narrowPairs) 790 (by decide +kernel) rfl) (gt_of (w := .instanceMethod yX6_narrowPairs) 792 (by decide +kernel) rfl) (gt_sel (w := .selects RX6 yX6_narrowPairs yX6_narrowPairs) 22 (by decide +kernel) rfl) (gt_of (w := .initialized RX6) 11 (by decide +kernel) rfl) cd_X6_narrowPairs
theorem vf_X6_106 : VF RX6 106 6 yX6_strikesOut cX6_strikesOut 5 (some .boolean) 0 := VF.mk rfl (by decide +kernel) (gt_of (w := .methodLink RX6 106 yX6_strikesOut) 794 (by decide +kernel) rfl) (gt_of (w := .instanceMethod yX6_strikesOut) 796 (by decide +kernel) rfl) (gt_sel (w := .selects RX6 yX6_strikesOut yX6_strikesOut) 23 (by decide +kernel) rfl) (gt_of (w := .initialized RX6) 11 (by decide +kernel) rfl) cd_X6_strikesOut
theorem vf_X6_110 : VF RX6 110 6 yX6_fitsFrom cX6_fitsFrom 4 (some .boolean) 1 := VF.mk rfl (by decide +kernel) (gt_of (w := .methodLink RX6 110 yX6_fitsFrom) 802 (by decide +kernel) rfl) (gt_of (w := .instanceMethod yX6_fitsFrom) 804 (by decide +kernel) rfl) (gt_sel (w := .selects RX6 yX6_fitsFrom yX6_fitsFrom) 25 (by decide +kernel) rfl) (gt_of (w := .initialized RX6) 11 (by decide +kernel) rfl) cd_X6_fitsFrom
theorem vf_X6_113 : VF RX6 113 6 yX6_fittedBySome cX6_fittedBySome 6 (some .int) 1 := VF.mk rfl (by decide +kernel) (gt_of (w := .methodLink RX6 113 yX6_fittedBySome) 798 (by decide +kernel) rfl) (gt_of (w := .instanceMethod yX6_fittedBySome) 800 (by decide +kernel) rfl) (gt_sel (w := .selects RX6 yX6_fittedBySome yX6_fittedBySome) 24 (by decide +kernel) rfl) (gt_of (w := .initialized RX6) 11 (by decide +kernel) rfl) cd_X6_fittedBySome
theorem vf_X6_116 : VF RX6 116 6 yX6_leavesSome cX6_leavesSome 6 (some .boolean) 2 := VF.mk rfl (by decide +kernel) (gt_of (w := .methodLink RX6 116 yX6_leavesSome) 806 (by decide +kernel) rfl) (gt_of (w := .instanceMethod yX6_leavesSome) 808 (by decide +kernel) rfl) (gt_sel (w := .selects RX6 yX6_leavesSome yX6_leavesSome) 26 (by decide +kernel) rfl) (gt_of (w := .initialized RX6) 11 (by decide +kernel) rfl) cd_X6_leavesSome
theorem sf_X8_37 : SF RX8 37 yX8_travelBy cX8_travelBy 4 (some .int) 4 := SF.mk (by decide +kernel) (gt_of (w := .methodLink RX8 37 yX8_travelBy) 576 (by decide +kernel) rfl) (gt_of (w := .static yX8_travelBy) 577 (by decide +kernel) rfl) (gt_of (w := .initialized RX8) 9 (by decide +kernel) rfl) cd_X8_travelBy
theorem vf_X8_50 : VF RX8 50 2 yX2_ofNumber cX2_ofNumber 2 (some (.object "OneBell$Door")) 1 := VF.mk rfl (by decide +kernel) (gt_of (w := .methodLink RX8 50 yX2_ofNumber) 588 (by decide +kernel) rfl) (gt_of (w := .instanceMethod yX2_ofNumber) 589 (by decide +kernel) rfl) (gt_of (w := .selects RX2 yX2_ofNumber yX2_ofNumber) 590 (by decide +kernel) rfl) (gt_of (w := .initialized RX2) 3 (by decide +kernel) rfl) cd_X2_ofNumber
theorem vf_X8_56 : VF RX8 56 8 yX8_moveOf cX8_moveOf 4 (some .int) 3 := VF.mk rfl (by decide +kernel) (gt_of (w := .methodLink RX8 56 yX8_moveOf) 592 (by decide +kernel) rfl) (gt_of (w := .instanceMethod yX8_moveOf) 593 (by decide +kernel) rfl) (gt_of (w := .selects RX8 yX8_moveOf yX8_moveOf) 594 (by decide +kernel) rfl) (gt_of (w := .initialized RX8) 9 (by decide +kernel) rfl) cd_X8_moveOf
theorem vf_X8_73 : VF RX8 73 9 yX9_slackInDamp cX9_slackInDamp 2 (some .int) 1 := VF.mk rfl (by decide +kernel) (gt_of (w := .methodLink RX8 73 yX9_slackInDamp) 580 (by decide +kernel) rfl) (gt_of (w := .instanceMethod yX9_slackInDamp) 581 (by decide +kernel) rfl) (gt_of (w := .selects RX9 yX9_slackInDamp yX9_slackInDamp) 582 (by decide +kernel) rfl) (gt_of (w := .initialized RX9) 2 (by decide +kernel) rfl) cd_X9_slackInDamp
theorem tf_X8_77 : TF RX8 77 yJ9_max_7cf53 cJ9_max_7cf53 2 (some .int) 2 := TF.mk (by decide +kernel) (gt_of (w := .methodLink RX8 77 yJ9_max_7cf53) 587 (by decide +kernel) rfl) (gt_of (w := .static yJ9_max_7cf53) 585 (by decide +kernel) rfl) (gt_of (w := .initialized RJ9) 14 (by decide +kernel) rfl) cd_J9_max_7cf53
theorem tf_X9_74 : TF RX9 74 yJ9_max_7cf53 cJ9_max_7cf53 2 (some .int) 2 := TF.mk (by decide +kernel) (gt_of (w := .methodLink RX9 74 yJ9_max_7cf53) 584 (by decide +kernel) rfl) (gt_of (w := .static yJ9_max_7cf53) 585 (by decide +kernel) rfl) (gt_of (w := .initialized RJ9) 14 (by decide +kernel) rfl) cd_J9_max_7cf53
theorem vf_X12_48 : VF RX12 48 12 yX12_things cX12_things 1 (some .int) 0 := VF.mk rfl (by decide +kernel) (gt_of (w := .methodLink RX12 48 yX12_things) 969 (by decide +kernel) rfl) (gt_of (w := .instanceMethod yX12_things) 971 (by decide +kernel) rfl) (gt_sel (w := .selects RX12 yX12_things yX12_things) 30 (by decide +kernel) rfl) (gt_of (w := .initialized RX12) 13 (by decide +kernel) rfl) cd_X12_things
theorem sf_X12_52 : SF RX12 52 yX12_in cX12_in 6 (some .boolean) 3 := SF.mk (by decide +kernel) (gt_of (w := .methodLink RX12 52 yX12_in) 961 (by decide +kernel) rfl) (gt_of (w := .static yX12_in) 962 (by decide +kernel) rfl) (gt_of (w := .initialized RX12) 13 (by decide +kernel) rfl) cd_X12_in
theorem vf_X12_60 : VF RX12 60 12 yX12_bad cX12_bad 2 (some .int) 1 := VF.mk rfl (by decide +kernel) (gt_of (w := .methodLink RX12 60 yX12_bad) 965 (by decide +kernel) rfl) (gt_of (w := .instanceMethod yX12_bad) 967 (by decide +kernel) rfl) (gt_sel (w := .selects RX12 yX12_bad yX12_bad) 29 (by decide +kernel) rfl) (gt_of (w := .initialized RX12) 13 (by decide +kernel) rfl) cd_X12_bad
theorem vf_X12_64 : VF RX12 64 12 yX12_full cX12_full 1 (some .int) 0 := VF.mk rfl (by decide +kernel) (gt_of (w := .methodLink RX12 64 yX12_full) 973 (by decide +kernel) rfl) (gt_of (w := .instanceMethod yX12_full) 975 (by decide +kernel) rfl) (gt_sel (w := .selects RX12 yX12_full yX12_full) 31 (by decide +kernel) rfl) (gt_of (w := .initialized RX12) 13 (by decide +kernel) rfl) cd_X12_full
theorem sf_X12_67 : SF RX12 67 yX12_layThing cX12_layThing 6 none 5 := SF.mk (by decide +kernel) (gt_of (w := .methodLink RX12 67 yX12_layThing) 977 (by decide +kernel) rfl) (gt_of (w := .static yX12_layThing) 978 (by decide +kernel) rfl) (gt_of (w := .initialized RX12) 13 (by decide +kernel) rfl) cd_X12_layThing
theorem vf_X12_71 : VF RX12 71 12 yX12_isThing cX12_isThing 2 (some .boolean) 1 := VF.mk rfl (by decide +kernel) (gt_of (w := .methodLink RX12 71 yX12_isThing) 984 (by decide +kernel) rfl) (gt_of (w := .instanceMethod yX12_isThing) 986 (by decide +kernel) rfl) (gt_sel (w := .selects RX12 yX12_isThing yX12_isThing) 32 (by decide +kernel) rfl) (gt_of (w := .initialized RX12) 13 (by decide +kernel) rfl) cd_X12_isThing
theorem vf_X12_75 : VF RX12 75 12 yX12_of cX12_of 3 (some .int) 2 := VF.mk rfl (by decide +kernel) (gt_of (w := .methodLink RX12 75 yX12_of) 988 (by decide +kernel) rfl) (gt_of (w := .instanceMethod yX12_of) 990 (by decide +kernel) rfl) (gt_sel (w := .selects RX12 yX12_of yX12_of) 33 (by decide +kernel) rfl) (gt_of (w := .initialized RX12) 13 (by decide +kernel) rfl) cd_X12_of
theorem vf_X12_79 : VF RX12 79 12 yX12_no cX12_no 2 (some .int) 1 := VF.mk rfl (by decide +kernel) (gt_of (w := .methodLink RX12 79 yX12_no) 992 (by decide +kernel) rfl) (gt_of (w := .instanceMethod yX12_no) 994 (by decide +kernel) rfl) (gt_sel (w := .selects RX12 yX12_no yX12_no) 34 (by decide +kernel) rfl) (gt_of (w := .initialized RX12) 13 (by decide +kernel) rfl) cd_X12_no
theorem vf_X12_82 : VF RX12 82 12 yX12_takeSlacks cX12_takeSlacks 4 none 1 := VF.mk rfl (by decide +kernel) (gt_of (w := .methodLink RX12 82 yX12_takeSlacks) 1013 (by decide +kernel) rfl) (gt_of (w := .instanceMethod yX12_takeSlacks) 1015 (by decide +kernel) rfl) (gt_sel (w := .selects RX12 yX12_takeSlacks yX12_takeSlacks) 37 (by decide +kernel) rfl) (gt_of (w := .initialized RX12) 13 (by decide +kernel) rfl) cd_X12_takeSlacks
theorem vf_X12_86 : VF RX12 86 12 yX12_wholeNow cX12_wholeNow 3 (some .int) 0 := VF.mk rfl (by decide +kernel) (gt_of (w := .methodLink RX12 86 yX12_wholeNow) 1017 (by decide +kernel) rfl) (gt_of (w := .instanceMethod yX12_wholeNow) 1019 (by decide +kernel) rfl) (gt_sel (w := .selects RX12 yX12_wholeNow yX12_wholeNow) 38 (by decide +kernel) rfl) (gt_of (w := .initialized RX12) 13 (by decide +kernel) rfl) cd_X12_wholeNow
theorem vf_X12_105 : VF RX12 105 12 yX12_travelOf cX12_travelOf 3 (some .int) 2 := VF.mk rfl (by decide +kernel) (gt_of (w := .methodLink RX12 105 yX12_travelOf) 1041 (by decide +kernel) rfl) (gt_of (w := .instanceMethod yX12_travelOf) 1043 (by decide +kernel) rfl) (gt_sel (w := .selects RX12 yX12_travelOf yX12_travelOf) 44 (by decide +kernel) rfl) (gt_of (w := .initialized RX12) 13 (by decide +kernel) rfl) cd_X12_travelOf
theorem vf_X12_108 : VF RX12 108 12 yX12_travel cX12_travel 1 (some .int) 0 := VF.mk rfl (by decide +kernel) (gt_of (w := .methodLink RX12 108 yX12_travel) 1037 (by decide +kernel) rfl) (gt_of (w := .instanceMethod yX12_travel) 1039 (by decide +kernel) rfl) (gt_sel (w := .selects RX12 yX12_travel yX12_travel) 43 (by decide +kernel) rfl) (gt_of (w := .initialized RX12) 13 (by decide +kernel) rfl) cd_X12_travel
theorem vf_X12_111 : VF RX12 111 12 yX12_moveOf cX12_moveOf 3 (some .int) 1 := VF.mk rfl (by decide +kernel) (gt_of (w := .methodLink RX12 111 yX12_moveOf) 1033 (by decide +kernel) rfl) (gt_of (w := .instanceMethod yX12_moveOf) 1035 (by decide +kernel) rfl) (gt_sel (w := .selects RX12 yX12_moveOf yX12_moveOf) 42 (by decide +kernel) rfl) (gt_of (w := .initialized RX12) 13 (by decide +kernel) rfl) cd_X12_moveOf
theorem vf_X12_114 : VF RX12 114 12 yX12_behind cX12_behind 8 (some .int) 1 := VF.mk rfl (by decide +kernel) (gt_of (w := .methodLink RX12 114 yX12_behind) 1029 (by decide +kernel) rfl) (gt_of (w := .instanceMethod yX12_behind) 1031 (by decide +kernel) rfl) (gt_sel (w := .selects RX12 yX12_behind yX12_behind) 41 (by decide +kernel) rfl) (gt_of (w := .initialized RX12) 13 (by decide +kernel) rfl) cd_X12_behind
theorem vf_X12_119 : VF RX12 119 12 yX12_isPull cX12_isPull 3 (some .boolean) 2 := VF.mk rfl (by decide +kernel) (gt_of (w := .methodLink RX12 119 yX12_isPull) 1004 (by decide +kernel) rfl) (gt_of (w := .instanceMethod yX12_isPull) 1006 (by decide +kernel) rfl) (gt_sel (w := .selects RX12 yX12_isPull yX12_isPull) 35 (by decide +kernel) rfl) (gt_of (w := .initialized RX12) 13 (by decide +kernel) rfl) cd_X12_isPull
theorem vf_X12_123 : VF RX12 123 12 yX12_takeNow cX12_takeNow 1 none 0 := VF.mk rfl (by decide +kernel) (gt_of (w := .methodLink RX12 123 yX12_takeNow) 1009 (by decide +kernel) rfl) (gt_of (w := .instanceMethod yX12_takeNow) 1011 (by decide +kernel) rfl) (gt_sel (w := .selects RX12 yX12_takeNow yX12_takeNow) 36 (by decide +kernel) rfl) (gt_of (w := .initialized RX12) 13 (by decide +kernel) rfl) cd_X12_takeNow
theorem vf_X12_126 : VF RX12 126 12 yX12_onePull cX12_onePull 3 none 2 := VF.mk rfl (by decide +kernel) (gt_of (w := .methodLink RX12 126 yX12_onePull) 1021 (by decide +kernel) rfl) (gt_of (w := .instanceMethod yX12_onePull) 1023 (by decide +kernel) rfl) (gt_sel (w := .selects RX12 yX12_onePull yX12_onePull) 39 (by decide +kernel) rfl) (gt_of (w := .initialized RX12) 13 (by decide +kernel) rfl) cd_X12_onePull
theorem vf_X12_130 : VF RX12 130 12 yX12_goPull cX12_goPull 2 (some .int) 0 := VF.mk rfl (by decide +kernel) (gt_of (w := .methodLink RX12 130 yX12_goPull) 1025 (by decide +kernel) rfl) (gt_of (w := .instanceMethod yX12_goPull) 1027 (by decide +kernel) rfl) (gt_sel (w := .selects RX12 yX12_goPull yX12_goPull) 40 (by decide +kernel) rfl) (gt_of (w := .initialized RX12) 13 (by decide +kernel) rfl) cd_X12_goPull
theorem vf_X12_133 : VF RX12 133 12 yX12_errands cX12_errands 1 (some .int) 0 := VF.mk rfl (by decide +kernel) (gt_of (w := .methodLink RX12 133 yX12_errands) 1069 (by decide +kernel) rfl) (gt_of (w := .instanceMethod yX12_errands) 1071 (by decide +kernel) rfl) (gt_sel (w := .selects RX12 yX12_errands yX12_errands) 45 (by decide +kernel) rfl) (gt_of (w := .initialized RX12) 13 (by decide +kernel) rfl) cd_X12_errands
theorem sf_X12_136 : SF RX12 136 yX12_bits cX12_bits 3 (some .int) 1 := SF.mk (by decide +kernel) (gt_of (w := .methodLink RX12 136 yX12_bits) 1086 (by decide +kernel) rfl) (gt_of (w := .static yX12_bits) 1087 (by decide +kernel) rfl) (gt_of (w := .initialized RX12) 13 (by decide +kernel) rfl) cd_X12_bits
theorem vf_X12_139 : VF RX12 139 12 yX12_doErrand cX12_doErrand 3 (some .int) 2 := VF.mk rfl (by decide +kernel) (gt_of (w := .methodLink RX12 139 yX12_doErrand) 1093 (by decide +kernel) rfl) (gt_of (w := .instanceMethod yX12_doErrand) 1095 (by decide +kernel) rfl) (gt_sel (w := .selects RX12 yX12_doErrand yX12_doErrand) 48 (by decide +kernel) rfl) (gt_of (w := .initialized RX12) 13 (by decide +kernel) rfl) cd_X12_doErrand
theorem vf_X12_142 : VF RX12 142 12 yX12_harmOf cX12_harmOf 4 (some .int) 1 := VF.mk rfl (by decide +kernel) (gt_of (w := .methodLink RX12 142 yX12_harmOf) 1097 (by decide +kernel) rfl) (gt_of (w := .instanceMethod yX12_harmOf) 1099 (by decide +kernel) rfl) (gt_sel (w := .selects RX12 yX12_harmOf yX12_harmOf) 49 (by decide +kernel) rfl) (gt_of (w := .initialized RX12) 13 (by decide +kernel) rfl) cd_X12_harmOf
theorem vf_X12_149 : VF RX12 149 12 yX12_layOrder cX12_layOrder 5 (some .boolean) 1 := VF.mk rfl (by decide +kernel) (gt_of (w := .methodLink RX12 149 yX12_layOrder) 1082 (by decide +kernel) rfl) (gt_of (w := .instanceMethod yX12_layOrder) 1084 (by decide +kernel) rfl) (gt_sel (w := .selects RX12 yX12_layOrder yX12_layOrder) 46 (by decide +kernel) rfl) (gt_of (w := .initialized RX12) 13 (by decide +kernel) rfl) cd_X12_layOrder
theorem vf_X12_152 : VF RX12 152 12 yX12_harmOfRow cX12_harmOfRow 5 (some .int) 0 := VF.mk rfl (by decide +kernel) (gt_of (w := .methodLink RX12 152 yX12_harmOfRow) 1089 (by decide +kernel) rfl) (gt_of (w := .instanceMethod yX12_harmOfRow) 1091 (by decide +kernel) rfl) (gt_sel (w := .selects RX12 yX12_harmOfRow yX12_harmOfRow) 47 (by decide +kernel) rfl) (gt_of (w := .initialized RX12) 13 (by decide +kernel) rfl) cd_X12_harmOfRow
theorem vf_X12_155 : VF RX12 155 12 yX12_all cX12_all 1 (some .int) 0 := VF.mk rfl (by decide +kernel) (gt_of (w := .methodLink RX12 155 yX12_all) 1109 (by decide +kernel) rfl) (gt_of (w := .instanceMethod yX12_all) 1111 (by decide +kernel) rfl) (gt_sel (w := .selects RX12 yX12_all yX12_all) 51 (by decide +kernel) rfl) (gt_of (w := .initialized RX12) 13 (by decide +kernel) rfl) cd_X12_all
theorem vf_X12_158 : VF RX12 158 12 yX12_isSet cX12_isSet 2 (some .boolean) 1 := VF.mk rfl (by decide +kernel) (gt_of (w := .methodLink RX12 158 yX12_isSet) 1105 (by decide +kernel) rfl) (gt_of (w := .instanceMethod yX12_isSet) 1107 (by decide +kernel) rfl) (gt_sel (w := .selects RX12 yX12_isSet yX12_isSet) 50 (by decide +kernel) rfl) (gt_of (w := .initialized RX12) 13 (by decide +kernel) rfl) cd_X12_isSet
theorem vf_X12_161 : VF RX12 161 12 yX12_findFar cX12_findFar 6 none 1 := VF.mk rfl (by decide +kernel) (gt_of (w := .methodLink RX12 161 yX12_findFar) 1113 (by decide +kernel) rfl) (gt_of (w := .instanceMethod yX12_findFar) 1115 (by decide +kernel) rfl) (gt_sel (w := .selects RX12 yX12_findFar yX12_findFar) 52 (by decide +kernel) rfl) (gt_of (w := .initialized RX12) 13 (by decide +kernel) rfl) cd_X12_findFar
theorem vf_X12_164 : VF RX12 164 12 yX12_rules cX12_rules 1 (some .int) 0 := VF.mk rfl (by decide +kernel) (gt_of (w := .methodLink RX12 164 yX12_rules) 1133 (by decide +kernel) rfl) (gt_of (w := .instanceMethod yX12_rules) 1135 (by decide +kernel) rfl) (gt_sel (w := .selects RX12 yX12_rules yX12_rules) 53 (by decide +kernel) rfl) (gt_of (w := .initialized RX12) 13 (by decide +kernel) rfl) cd_X12_rules
theorem sf_X12_167 : SF RX12 167 yX12_layRule cX12_layRule 5 none 4 := SF.mk (by decide +kernel) (gt_of (w := .methodLink RX12 167 yX12_layRule) 1137 (by decide +kernel) rfl) (gt_of (w := .static yX12_layRule) 1138 (by decide +kernel) rfl) (gt_of (w := .initialized RX12) 13 (by decide +kernel) rfl) cd_X12_layRule
theorem vf_X12_171 : VF RX12 171 12 yX12_isSo cX12_isSo 4 (some .boolean) 1 := VF.mk rfl (by decide +kernel) (gt_of (w := .methodLink RX12 171 yX12_isSo) 1152 (by decide +kernel) rfl) (gt_of (w := .instanceMethod yX12_isSo) 1154 (by decide +kernel) rfl) (gt_sel (w := .selects RX12 yX12_isSo yX12_isSo) 55 (by decide +kernel) rfl) (gt_of (w := .initialized RX12) 13 (by decide +kernel) rfl) cd_X12_isSo
theorem vf_X12_174 : VF RX12 174 12 yX12_findSlacks cX12_findSlacks 6 (some .boolean) 1 := VF.mk rfl (by decide +kernel) (gt_of (w := .methodLink RX12 174 yX12_findSlacks) 1148 (by decide +kernel) rfl) (gt_of (w := .instanceMethod yX12_findSlacks) 1150 (by decide +kernel) rfl) (gt_sel (w := .selects RX12 yX12_findSlacks yX12_findSlacks) 54 (by decide +kernel) rfl) (gt_of (w := .initialized RX12) 13 (by decide +kernel) rfl) cd_X12_findSlacks
theorem sf_X12_177 : SF RX12 177 yX12_factorial cX12_factorial 3 (some .int) 1 := SF.mk (by decide +kernel) (gt_of (w := .methodLink RX12 177 yX12_factorial) 1164 (by decide +kernel) rfl) (gt_of (w := .static yX12_factorial) 1165 (by decide +kernel) rfl) (gt_of (w := .initialized RX12) 13 (by decide +kernel) rfl) cd_X12_factorial
theorem vf_X12_180 : VF RX12 180 12 yX12_harmBy cX12_harmBy 4 (some .int) 1 := VF.mk rfl (by decide +kernel) (gt_of (w := .methodLink RX12 180 yX12_harmBy) 1167 (by decide +kernel) rfl) (gt_of (w := .instanceMethod yX12_harmBy) 1169 (by decide +kernel) rfl) (gt_sel (w := .selects RX12 yX12_harmBy yX12_harmBy) 56 (by decide +kernel) rfl) (gt_of (w := .initialized RX12) 13 (by decide +kernel) rfl) cd_X12_harmBy
theorem sf_X12_213 : SF RX12 213 yX12_isSmall cX12_isSmall 1 (some .boolean) 1 := SF.mk (by decide +kernel) (gt_of (w := .methodLink RX12 213 yX12_isSmall) 1189 (by decide +kernel) rfl) (gt_of (w := .static yX12_isSmall) 1190 (by decide +kernel) rfl) (gt_of (w := .initialized RX12) 13 (by decide +kernel) rfl) cd_X12_isSmall
theorem sf_X12_216 : SF RX12 216 yX12_isFigure cX12_isFigure 1 (some .boolean) 1 := SF.mk (by decide +kernel) (gt_of (w := .methodLink RX12 216 yX12_isFigure) 1194 (by decide +kernel) rfl) (gt_of (w := .static yX12_isFigure) 1195 (by decide +kernel) rfl) (gt_of (w := .initialized RX12) 13 (by decide +kernel) rfl) cd_X12_isFigure
theorem vf_X12_219 : VF RX12 219 12 yX12_look cX12_look 5 none 1 := VF.mk rfl (by decide +kernel) (gt_of (w := .methodLink RX12 219 yX12_look) 1185 (by decide +kernel) rfl) (gt_of (w := .instanceMethod yX12_look) 1187 (by decide +kernel) rfl) (gt_sel (w := .selects RX12 yX12_look yX12_look) 57 (by decide +kernel) rfl) (gt_of (w := .initialized RX12) 13 (by decide +kernel) rfl) cd_X12_look
theorem vf_X12_222 : VF RX12 222 12 yX12_goOn cX12_goOn 1 none 0 := VF.mk rfl (by decide +kernel) (gt_of (w := .methodLink RX12 222 yX12_goOn) 1211 (by decide +kernel) rfl) (gt_of (w := .instanceMethod yX12_goOn) 1213 (by decide +kernel) rfl) (gt_sel (w := .selects RX12 yX12_goOn yX12_goOn) 61 (by decide +kernel) rfl) (gt_of (w := .initialized RX12) 13 (by decide +kernel) rfl) cd_X12_goOn
theorem vf_X12_225 : VF RX12 225 12 yX12_takes cX12_takes 4 (some .boolean) 3 := VF.mk rfl (by decide +kernel) (gt_of (w := .methodLink RX12 225 yX12_takes) 1215 (by decide +kernel) rfl) (gt_of (w := .instanceMethod yX12_takes) 1217 (by decide +kernel) rfl) (gt_sel (w := .selects RX12 yX12_takes yX12_takes) 62 (by decide +kernel) rfl) (gt_of (w := .initialized RX12) 13 (by decide +kernel) rfl) cd_X12_takes
theorem vf_X12_229 : VF RX12 229 12 yX12_takesPull cX12_takesPull 1 (some .boolean) 0 := VF.mk rfl (by decide +kernel) (gt_of (w := .methodLink RX12 229 yX12_takesPull) 1227 (by decide +kernel) rfl) (gt_of (w := .instanceMethod yX12_takesPull) 1229 (by decide +kernel) rfl) (gt_sel (w := .selects RX12 yX12_takesPull yX12_takesPull) 65 (by decide +kernel) rfl) (gt_of (w := .initialized RX12) 13 (by decide +kernel) rfl) cd_X12_takesPull
theorem vf_X12_233 : VF RX12 233 12 yX12_isWord cX12_isWord 10 (some .boolean) 6 := VF.mk rfl (by decide +kernel) (gt_of (w := .methodLink RX12 233 yX12_isWord) 1203 (by decide +kernel) rfl) (gt_of (w := .instanceMethod yX12_isWord) 1205 (by decide +kernel) rfl) (gt_sel (w := .selects RX12 yX12_isWord yX12_isWord) 59 (by decide +kernel) rfl) (gt_of (w := .initialized RX12) 13 (by decide +kernel) rfl) cd_X12_isWord
theorem vf_X12_237 : VF RX12 237 12 yX12_readsThing cX12_readsThing 1 (some .boolean) 0 := VF.mk rfl (by decide +kernel) (gt_of (w := .methodLink RX12 237 yX12_readsThing) 1207 (by decide +kernel) rfl) (gt_of (w := .instanceMethod yX12_readsThing) 1209 (by decide +kernel) rfl) (gt_sel (w := .selects RX12 yX12_readsThing yX12_readsThing) 60 (by decide +kernel) rfl) (gt_of (w := .initialized RX12) 13 (by decide +kernel) rfl) cd_X12_readsThing
theorem vf_X12_240 : VF RX12 240 12 yX12_readsCut cX12_readsCut 1 (some .boolean) 0 := VF.mk rfl (by decide +kernel) (gt_of (w := .methodLink RX12 240 yX12_readsCut) 1219 (by decide +kernel) rfl) (gt_of (w := .instanceMethod yX12_readsCut) 1221 (by decide +kernel) rfl) (gt_sel (w := .selects RX12 yX12_readsCut yX12_readsCut) 63 (by decide +kernel) rfl) (gt_of (w := .initialized RX12) 13 (by decide +kernel) rfl) cd_X12_readsCut
theorem vf_X12_243 : VF RX12 243 12 yX12_readsErrand cX12_readsErrand 2 (some .boolean) 0 := VF.mk rfl (by decide +kernel) (gt_of (w := .methodLink RX12 243 yX12_readsErrand) 1223 (by decide +kernel) rfl) (gt_of (w := .instanceMethod yX12_readsErrand) 1225 (by decide +kernel) rfl) (gt_sel (w := .selects RX12 yX12_readsErrand yX12_readsErrand) 64 (by decide +kernel) rfl) (gt_of (w := .initialized RX12) 13 (by decide +kernel) rfl) cd_X12_readsErrand
theorem vf_X12_246 : VF RX12 246 12 yX12_readsRule cX12_readsRule 1 (some .boolean) 0 := VF.mk rfl (by decide +kernel) (gt_of (w := .methodLink RX12 246 yX12_readsRule) 1231 (by decide +kernel) rfl) (gt_of (w := .instanceMethod yX12_readsRule) 1233 (by decide +kernel) rfl) (gt_sel (w := .selects RX12 yX12_readsRule yX12_readsRule) 66 (by decide +kernel) rfl) (gt_of (w := .initialized RX12) 13 (by decide +kernel) rfl) cd_X12_readsRule
theorem vf_X12_249 : VF RX12 249 12 yX12_readsItem cX12_readsItem 2 (some .boolean) 0 := VF.mk rfl (by decide +kernel) (gt_of (w := .methodLink RX12 249 yX12_readsItem) 1199 (by decide +kernel) rfl) (gt_of (w := .instanceMethod yX12_readsItem) 1201 (by decide +kernel) rfl) (gt_sel (w := .selects RX12 yX12_readsItem yX12_readsItem) 58 (by decide +kernel) rfl) (gt_of (w := .initialized RX12) 13 (by decide +kernel) rfl) cd_X12_readsItem
theorem vf_X12_256 : VF RX12 256 12 yX12_counted cX12_counted 2 (some .int) 1 := VF.mk rfl (by decide +kernel) (gt_of (w := .methodLink RX12 256 yX12_counted) 1257 (by decide +kernel) rfl) (gt_of (w := .instanceMethod yX12_counted) 1259 (by decide +kernel) rfl) (gt_sel (w := .selects RX12 yX12_counted yX12_counted) 67 (by decide +kernel) rfl) (gt_of (w := .initialized RX12) 13 (by decide +kernel) rfl) cd_X12_counted
theorem vf_X12_263 : VF RX12 263 12 yX12_sums cX12_sums 8 (some .long) 3 := VF.mk rfl (by decide +kernel) (gt_of (w := .methodLink RX12 263 yX12_sums) 1267 (by decide +kernel) rfl) (gt_of (w := .instanceMethod yX12_sums) 1269 (by decide +kernel) rfl) (gt_sel (w := .selects RX12 yX12_sums yX12_sums) 68 (by decide +kernel) rfl) (gt_of (w := .initialized RX12) 13 (by decide +kernel) rfl) cd_X12_sums
theorem tf_J0_495 : TF RJ0 495 yJ1_charAt_3b067 cJ1_charAt_3b067 2 (some .char) 2 := TF.mk (by decide +kernel) (gt_of (w := .methodLink RJ0 495 yJ1_charAt_3b067) 483 (by decide +kernel) rfl) (gt_of (w := .static yJ1_charAt_3b067) 484 (by decide +kernel) rfl) (gt_of (w := .initialized RJ1) 16 (by decide +kernel) rfl) cd_J1_charAt_3b067
theorem tf_J0_498 : TF RJ0 498 yJ2_charAt_3b067 cJ2_charAt_3b067 2 (some .char) 2 := TF.mk (by decide +kernel) (gt_of (w := .methodLink RJ0 498 yJ2_charAt_3b067) 494 (by decide +kernel) rfl) (gt_of (w := .static yJ2_charAt_3b067) 495 (by decide +kernel) rfl) (gt_of (w := .initialized RJ2) 18 (by decide +kernel) rfl) cd_J2_charAt_3b067
theorem tf_J0_1059 : TF RJ0 1059 yJ3_checkIndex_8e157 cJ3_checkIndex_8e157 3 (some .int) 3 := TF.mk (by decide +kernel) (gt_of (w := .methodLink RJ0 1059 yJ3_checkIndex_8e157) 491 (by decide +kernel) rfl) (gt_of (w := .static yJ3_checkIndex_8e157) 492 (by decide +kernel) rfl) (gt_of (w := .initialized RJ3) 17 (by decide +kernel) rfl) cd_J3_checkIndex_8e157
theorem tf_J1_9 : TF RJ1 9 yJ0_checkIndex_df160 cJ0_checkIndex_df160 2 none 2 := TF.mk (by decide +kernel) (gt_of (w := .methodLink RJ1 9 yJ0_checkIndex_df160) 486 (by decide +kernel) rfl) (gt_of (w := .static yJ0_checkIndex_df160) 487 (by decide +kernel) rfl) (gt_of (w := .initialized RJ0) 15 (by decide +kernel) rfl) cd_J0_checkIndex_df160
theorem sf_J2_48 : SF RJ2 48 yJ2_length_9d52b cJ2_length_9d52b 1 (some .int) 1 := SF.mk (by decide +kernel) (gt_of (w := .methodLink RJ2 48 yJ2_length_9d52b) 500 (by decide +kernel) rfl) (gt_of (w := .static yJ2_length_9d52b) 501 (by decide +kernel) rfl) (gt_of (w := .initialized RJ2) 18 (by decide +kernel) rfl) cd_J2_length_9d52b
theorem sf_J2_67 : SF RJ2 67 yJ2_checkIndex_2214a cJ2_checkIndex_2214a 2 none 2 := SF.mk (by decide +kernel) (gt_of (w := .methodLink RJ2 67 yJ2_checkIndex_2214a) 497 (by decide +kernel) rfl) (gt_of (w := .static yJ2_checkIndex_2214a) 498 (by decide +kernel) rfl) (gt_of (w := .initialized RJ2) 18 (by decide +kernel) rfl) cd_J2_checkIndex_2214a
theorem sf_J2_71 : SF RJ2 71 yJ2_getChar_3b067 cJ2_getChar_3b067 2 (some .char) 2 := SF.mk (by decide +kernel) (gt_of (w := .methodLink RJ2 71 yJ2_getChar_3b067) 504 (by decide +kernel) rfl) (gt_of (w := .static yJ2_getChar_3b067) 505 (by decide +kernel) rfl) (gt_of (w := .initialized RJ2) 18 (by decide +kernel) rfl) cd_J2_getChar_3b067
theorem tf_J2_414 : TF RJ2 414 yJ0_checkIndex_df160 cJ0_checkIndex_df160 2 none 2 := TF.mk (by decide +kernel) (gt_of (w := .methodLink RJ2 414 yJ0_checkIndex_df160) 503 (by decide +kernel) rfl) (gt_of (w := .static yJ0_checkIndex_df160) 487 (by decide +kernel) rfl) (gt_of (w := .initialized RJ0) 15 (by decide +kernel) rfl) cd_J0_checkIndex_df160
theorem nf_X0_105 : NF RX0 105 yX11_has cX11_has 2 (some .boolean) 2 := ⟨by decide +kernel, (gt_of (w := .static yX11_has) 411 (by decide +kernel) rfl), (gt_of (w := .initialized RX11) 1 (by decide +kernel) rfl), by decide +kernel, goodIn_gt cd_X11_has⟩
theorem nf_X5_106 : NF RX5 106 yX11_has cX11_has 2 (some .boolean) 2 := ⟨by decide +kernel, (gt_of (w := .static yX11_has) 411 (by decide +kernel) rfl), (gt_of (w := .initialized RX11) 1 (by decide +kernel) rfl), by decide +kernel, goodIn_gt cd_X11_has⟩
theorem nf_X5_126 : NF RX5 126 yX11_within cX11_within 3 (some .boolean) 3 := ⟨by decide +kernel, (gt_of (w := .static yX11_within) 387 (by decide +kernel) rfl), (gt_of (w := .initialized RX11) 1 (by decide +kernel) rfl), by decide +kernel, goodIn_gt cd_X11_within⟩
theorem nf_X6_87 : NF RX6 87 yX11_has cX11_has 2 (some .boolean) 2 := ⟨by decide +kernel, (gt_of (w := .static yX11_has) 411 (by decide +kernel) rfl), (gt_of (w := .initialized RX11) 1 (by decide +kernel) rfl), by decide +kernel, goodIn_gt cd_X11_has⟩
theorem nf_X8_69 : NF RX8 69 yX11_has cX11_has 2 (some .boolean) 2 := ⟨by decide +kernel, (gt_of (w := .static yX11_has) 411 (by decide +kernel) rfl), (gt_of (w := .initialized RX11) 1 (by decide +kernel) rfl), by decide +kernel, goodIn_gt cd_X11_has⟩
theorem nf_X9_70 : NF RX9 70 yX11_within cX11_within 3 (some .boolean) 3 := ⟨by decide +kernel, (gt_of (w := .static yX11_within) 387 (by decide +kernel) rfl), (gt_of (w := .initialized RX11) 1 (by decide +kernel) rfl), by decide +kernel, goodIn_gt cd_X11_within⟩
theorem nf_X9_80 : NF RX9 80 yX11_has cX11_has 2 (some .boolean) 2 := ⟨by decide +kernel, (gt_of (w := .static yX11_has) 411 (by decide +kernel) rfl), (gt_of (w := .initialized RX11) 1 (by decide +kernel) rfl), by decide +kernel, goodIn_gt cd_X11_has⟩
theorem cw_X11_244 : Cond.constantLong RX11 244 (773) ∈ gt := gt_of 870 (by decide +kernel) rfl
theorem cw_X11_246 : Cond.constantLong RX11 246 (31) ∈ gt := gt_of 871 (by decide +kernel) rfl
theorem cw_X0_91 : Cond.constant RX0 91 (1000000) ∈ gt := gt_of 681 (by decide +kernel) rfl
theorem cw_X6_101 : Cond.constant RX6 101 (524287) ∈ gt := gt_of 789 (by decide +kernel) rfl
theorem cw_X9_84 : Cond.constantLong RX9 84 (31) ∈ gt := gt_of 876 (by decide +kernel) rfl
theorem cw_X12_56 : Cond.constantLong RX12 56 (4) ∈ gt := gt_of 960 (by decide +kernel) rfl
theorem cw_X12_58 : Cond.constantLong RX12 58 (9) ∈ gt := gt_of 964 (by decide +kernel) rfl
theorem cw_X12_117 : Cond.constantLong RX12 117 (20) ∈ gt := gt_of 1008 (by decide +kernel) rfl
theorem cw_X12_145 : Cond.constant RX12 145 (100000) ∈ gt := gt_of 1081 (by decide +kernel) rfl
theorem cw_X12_186 : Cond.constantLong RX12 186 (8) ∈ gt := gt_of 1175 (by decide +kernel) rfl
theorem cw_X12_191 : Cond.constantLong RX12 191 (255) ∈ gt := gt_of 1176 (by decide +kernel) rfl
theorem cw_X12_193 : Cond.constantLong RX12 193 (97) ∈ gt := gt_of 1192 (by decide +kernel) rfl
theorem cw_X12_195 : Cond.constantLong RX12 195 (122) ∈ gt := gt_of 1193 (by decide +kernel) rfl
theorem cw_X12_197 : Cond.constantLong RX12 197 (48) ∈ gt := gt_of 1197 (by decide +kernel) rfl
theorem cw_X12_199 : Cond.constantLong RX12 199 (57) ∈ gt := gt_of 1198 (by decide +kernel) rfl
theorem cw_X12_252 : Cond.constantLong RX12 252 (2) ∈ gt := gt_of 1251 (by decide +kernel) rfl
theorem cw_X12_254 : Cond.constantLong RX12 254 (6) ∈ gt := gt_of 1256 (by decide +kernel) rfl
theorem cw_X12_259 : Cond.constantLong RX12 259 (31) ∈ gt := gt_of 1266 (by decide +kernel) rfl
theorem cw_X12_261 : Cond.constantLong RX12 261 (773) ∈ gt := gt_of 1265 (by decide +kernel) rfl
theorem cw_J6_265 : Cond.constant RJ6 265 (1431655765) ∈ gt := gt_of 749 (by decide +kernel) rfl
theorem cw_J6_266 : Cond.constant RJ6 266 (858993459) ∈ gt := gt_of 750 (by decide +kernel) rfl
theorem cw_J6_267 : Cond.constant RJ6 267 (252645135) ∈ gt := gt_of 751 (by decide +kernel) rfl
theorem ms_max : Cond.static Lib.Math.max.name ∈ gt := gt_of 585 (by decide +kernel) rfl
theorem mc_max : Cond.code Lib.Math.max.name Lib.Math.max.code 2 (some .int) ∈ gt := gt_of 586 (by decide +kernel) rfl
theorem ms_min : Cond.static Lib.Math.min.name ∈ gt := gt_of 438 (by decide +kernel) rfl
theorem mc_min : Cond.code Lib.Math.min.name Lib.Math.min.code 2 (some .int) ∈ gt := gt_of 439 (by decide +kernel) rfl
theorem ms_abs : Cond.static Lib.Math.abs.name ∈ gt := gt_of 839 (by decide +kernel) rfl
theorem mc_abs : Cond.code Lib.Math.abs.name Lib.Math.abs.code 1 (some .int) ∈ gt := gt_of 840 (by decide +kernel) rfl
theorem mi_math : Cond.initialized "java/lang/Math" ∈ gt := gt_of 14 (by decide +kernel) rfl
theorem ac_s : Cond.static arraycopyName ∈ gt := gt_of 561 (by decide +kernel) rfl
theorem ac_n : Cond.native arraycopyName ∈ gt := gt_of 562 (by decide +kernel) rfl
theorem ac_i : Cond.initialized "java/lang/System" ∈ gt := gt_of 19 (by decide +kernel) rfl
theorem ml_X11_263 : Cond.methodLink RX11 263 Lib.Math.abs.name ∈ gt := gt_of 838 (by decide +kernel) rfl
theorem ml_X0_99 : Cond.methodLink RX0 99 arraycopyName ∈ gt := gt_of 686 (by decide +kernel) rfl
theorem ml_X5_44 : Cond.methodLink RX5 44 Lib.Math.min.name ∈ gt := gt_of 437 (by decide +kernel) rfl
theorem ml_X6_60 : Cond.methodLink RX6 60 Lib.Math.max.name ∈ gt := gt_of 777 (by decide +kernel) rfl
theorem ml_X8_77 : Cond.methodLink RX8 77 Lib.Math.max.name ∈ gt := gt_of 587 (by decide +kernel) rfl
theorem ml_X9_64 : Cond.methodLink RX9 64 arraycopyName ∈ gt := gt_of 560 (by decide +kernel) rfl
theorem ml_X9_74 : Cond.methodLink RX9 74 Lib.Math.max.name ∈ gt := gt_of 584 (by decide +kernel) rfl
end
section
def f_X11_within  (x0 : Int32) (x1 : Int32) (x2 : Int32) : Option (Bool) :=
  if x0 < x1 then (some (false)) else (if x2 < x0 then (some (false)) else (some (true)))
set_option maxRecDepth 100000 in
set_option maxHeartbeats 4000000 in
theorem c_X11_within (l : Launch) (G : GG)  {x0 : Int32} {x1 : Int32} {x2 : Int32} {res : Bool} (hf : f_X11_within x0 x1 x2 = some res) : MI l yX11_within cX11_within 3 (some .boolean) 1 [.int x0, .int x1, .int x2] G [] (b2i res) [] := by
  unfold f_X11_within at hf
  refine MI.intro (by decide) rfl (Nat.le_of_ble_eq_true rfl) (fun p e s m args below meth c A ls C h hl => ?_)
  have C : MC RX11 cX11_within 3 (some .boolean) G A p s m args meth c := C
  have hl : lv_has ls 3 [(0, .int x0), (1, .int x1), (2, .int x2)] := hl
  refine lv_iload_n C.hx C.hb dX11_within_0 rfl (lv_at hl 0 rfl) ?_
  refine lv_iload_n C.hx C.hb dX11_within_1 rfl (lv_at hl 1 rfl) ?_
  refine lv_icmp_lt (tgt := 14) C.hx C.hb dX11_within_2 (by decide) (fun zc1 => ?_) (fun zc1 => ?_)
  · replace hf := it_t zc1 hf
    refine lv_iconst (v := 0) C.hx C.hb dX11_within_14 (by decide) ?_
    obtain rfl := Option.some.inj hf
    exact g_ret_z (b := false) C h rfl rfl rfl dX11_within_15
  · replace hf := it_f zc1 hf
    refine lv_iload_n C.hx C.hb dX11_within_5 rfl (lv_at hl 0 rfl) ?_
    refine lv_iload_n C.hx C.hb dX11_within_6 rfl (lv_at hl 2 rfl) ?_
    refine lv_icmp_gt (tgt := 14) C.hx C.hb dX11_within_7 (by decide) (fun zc2 => ?_) (fun zc2 => ?_)
    · replace hf := it_t zc2 hf
      refine lv_iconst (v := 0) C.hx C.hb dX11_within_14 (by decide) ?_
      obtain rfl := Option.some.inj hf
      exact g_ret_z (b := false) C h rfl rfl rfl dX11_within_15
    · replace hf := it_f zc2 hf
      refine lv_iconst (v := 1) C.hx C.hb dX11_within_10 (by decide) ?_
      refine lv_goto (tgt := 15) C.hx C.hb dX11_within_11 (by decide) ?_
      obtain rfl := Option.some.inj hf
      exact g_ret_z (b := true) C h rfl rfl rfl dX11_within_15

def f_X11_has  (x0 : Int32) (x1 : Int32) : Option (Bool) :=
  if ((x0 >>> (x1 &&& 31)) &&& 1) = 0 then (some (false)) else (some (true))
set_option maxRecDepth 100000 in
set_option maxHeartbeats 4000000 in
theorem c_X11_has (l : Launch) (G : GG)  {x0 : Int32} {x1 : Int32} {res : Bool} (hf : f_X11_has x0 x1 = some res) : MI l yX11_has cX11_has 2 (some .boolean) 1 [.int x0, .int x1] G [] (b2i res) [] := by
  unfold f_X11_has at hf
  refine MI.intro (by decide) rfl (Nat.le_of_ble_eq_true rfl) (fun p e s m args below meth c A ls C h hl => ?_)
  have C : MC RX11 cX11_has 2 (some .boolean) G A p s m args meth c := C
  have hl : lv_has ls 2 [(0, .int x0), (1, .int x1)] := hl
  refine lv_iload_n C.hx C.hb dX11_has_0 rfl (lv_at hl 0 rfl) ?_
  refine lv_iload_n C.hx C.hb dX11_has_1 rfl (lv_at hl 1 rfl) ?_
  refine lv_ishr C.hx C.hb dX11_has_2 ?_
  refine lv_iconst (v := 1) C.hx C.hb dX11_has_3 (by decide) ?_
  refine lv_iand C.hx C.hb dX11_has_4 ?_
  refine lv_if_eq (tgt := 12) C.hx C.hb dX11_has_5 (by decide) (fun zc1 => ?_) (fun zc1 => ?_)
  · replace hf := it_t zc1 hf
    refine lv_iconst (v := 0) C.hx C.hb dX11_has_12 (by decide) ?_
    obtain rfl := Option.some.inj hf
    exact g_ret_z (b := false) C h rfl rfl rfl dX11_has_13
  · replace hf := it_f zc1 hf
    refine lv_iconst (v := 1) C.hx C.hb dX11_has_8 (by decide) ?_
    refine lv_goto (tgt := 13) C.hx C.hb dX11_has_9 (by decide) ?_
    obtain rfl := Option.some.inj hf
    exact g_ret_z (b := true) C h rfl rfl rfl dX11_has_13

def f_X9_hasThing (v_t : US) (x1 : Int32) : Option (Bool) :=
  (f_X11_within x1 0 ((v_t.1 0) - 1)).bind fun zr1 => some (zr1)
set_option maxRecDepth 100000 in
set_option maxHeartbeats 4000000 in
theorem c_X9_hasThing (l : Launch) (G : GG) (o_t : Nat) (a_t : Nat → Nat) {v_t : US} {x1 : Int32} {res : Bool} (hf : f_X9_hasThing v_t x1 = some res) : MI l yX9_hasThing cX9_hasThing 2 (some .boolean) 2 [.ref o_t, .int x1] G [uX9 G o_t a_t v_t] (b2i res) [uX9 G o_t a_t v_t] := by
  unfold f_X9_hasThing at hf
  refine MI.intro (by decide) rfl (Nat.le_of_ble_eq_true rfl) (fun p e s m args below meth c A ls C h hl => ?_)
  have C : MC RX9 cX9_hasThing 2 (some .boolean) G A p s m args meth c := C
  have hl : lv_has ls 2 [(0, .ref o_t), (1, .int x1)] := hl
  refine lv_iload_n C.hx C.hb dX9_hasThing_0 rfl (lv_at hl 1 rfl) ?_
  refine lv_iconst (v := 0) C.hx C.hb dX9_hasThing_1 (by decide) ?_
  refine lv_aload_n C.hx C.hb dX9_hasThing_2 rfl (lv_at hl 0 rfl) ?_
  refine g_get C h fl_X9_9 0 0 rfl rfl (v := .int (v_t.1 0)) rfl dX9_hasThing_3 ?_
  refine lv_iconst (v := 1) C.hx C.hb dX9_hasThing_6 (by decide) ?_
  refine lv_isub C.hx C.hb dX9_hasThing_7 ?_
  obtain ⟨zr1, zq2, hf⟩ := bd_some hf
  have zm3 := c_X11_within l G  (hf := zq2)
  refine g_goI C h zm3.1 (is := []) rfl rfl (g_runN C h (is := []) rfl rfl (As := [.int x1, .int 0, .int ((v_t.1 0) - 1)]) (rest := []) (zm3.2 _) nf_X9_70 hl.1 rfl rfl (Nat.le_of_ble_eq_true rfl) dX9_hasThing_8 ⟨Nat.le_of_ble_eq_true rfl, Nat.le_of_ble_eq_true rfl⟩ ⟨Nat.le_refl _, Nat.le_refl _⟩) (us2 := [uX9 G o_t a_t v_t]) rfl (fun H locs h => ?_)
  obtain rfl := Option.some.inj hf
  exact g_ret_z (b := _) C h rfl rfl rfl dX9_hasThing_11

def b_X9_harmOf_4 (N : Nat) (g4 : US → Int32 → Int32 → Int32 → Option (Int32)) (v_t : US) (y1 : Int32) (y2 : Int32) (y3 : Int32) : Option (Int32) :=
  if (v_t.1 0) ≤ y3 then (some (y2)) else ((f_X11_has y1 y3).bind fun zr2 => if (b2i zr2) = 0 then (g4 v_t y1 y2 (y3 + 1)) else (if y3 < 0 ∨ 5 ≤ y3.toNatClampNeg then none else (g4 v_t y1 (y2 + ((v_t.2.2 4) y3.toNatClampNeg)) (y3 + 1))))
def f_X9_harmOf_4 (N : Nat)  : Nat → US → Int32 → Int32 → Int32 → Option (Int32)
  | 0 => fun _ _ _ _ => none
  | k + 1 => fun q0 q1 q2 q3 => b_X9_harmOf_4 N  (f_X9_harmOf_4 N  k) q0 q1 q2 q3
def f_X9_harmOf (N : Nat) (v_t : US) (x1 : Int32) : Option (Int32) :=
  f_X9_harmOf_4 N N v_t x1 0 0
set_option maxRecDepth 100000 in
set_option maxHeartbeats 4000000 in
theorem w_X9_harmOf_4 {p : Program} {l : Launch} {e : Env} {s : State} {m : MethodId} {args : Array Value} {below : List Frame} {meth : Method} {c : Code} {G : GG} {A : Nat → Prop} {o_t : Nat} {a_t : Nat → Nat} {N : Nat} {g4 : US → Int32 → Int32 → Int32 → Option (Int32)} {v_t : US} {y1 : Int32} {y2 : Int32} {y3 : Int32} {res : Int32} (C : MC RX9 cX9_harmOf 4 (some .int) G A p s m args meth c) (hg4 : ∀ {v_t : US} {y1 : Int32} {y2 : Int32} {y3 : Int32}, g4 v_t y1 y2 y3 = some res → ∀ {H : Heap} {locs : List Loc} {ls : Array Slot}, HP G A s [uX9 G o_t a_t v_t] H locs → lv_has ls 4 [(0, .ref o_t), (1, .int y1), (2, .int y2), (3, .int y3)] → W p l e (rmm 2) s m args below meth c H locs 0 0 (QI below G A args s res [uX9 G o_t a_t v_t]) (F0 m 4 ls [])) (hf : b_X9_harmOf_4 N g4 v_t y1 y2 y3 = some res) {H : Heap} {locs : List Loc} {ls : Array Slot} (h : HP G A s [uX9 G o_t a_t v_t] H locs) (hl : lv_has ls 4 [(0, .ref o_t), (1, .int y1), (2, .int y2), (3, .int y3)]) : W p l e (rmm 2) s m args below meth c H locs 0 0 (QI below G A args s res [uX9 G o_t a_t v_t]) (F0 m 4 ls []) := by
  unfold b_X9_harmOf_4 at hf
  refine lv_iload_n C.hx C.hb dX9_harmOf_4 rfl (lv_at hl 3 rfl) ?_
  refine lv_aload_n C.hx C.hb dX9_harmOf_5 rfl (lv_at hl 0 rfl) ?_
  refine g_get C h fl_X9_9 0 0 rfl rfl (v := .int (v_t.1 0)) rfl dX9_harmOf_6 ?_
  refine lv_icmp_ge (tgt := 35) C.hx C.hb dX9_harmOf_9 (by decide) (fun zc1 => ?_) (fun zc1 => ?_)
  · replace hf := it_t zc1 hf
    refine lv_iload_n C.hx C.hb dX9_harmOf_35 rfl (lv_at hl 2 rfl) ?_
    cases hf
    exact g_ret_i C h rfl rfl dX9_harmOf_36
  · replace hf := it_f zc1 hf
    refine lv_iload_n C.hx C.hb dX9_harmOf_12 rfl (lv_at hl 1 rfl) ?_
    refine lv_iload_n C.hx C.hb dX9_harmOf_13 rfl (lv_at hl 3 rfl) ?_
    obtain ⟨zr2, zq3, hf⟩ := bd_some hf
    have zm4 := c_X11_has l G  (hf := zq3)
    refine g_goI C h zm4.1 (is := []) rfl rfl (g_runN C h (is := []) rfl rfl (As := [.int y1, .int y3]) (rest := []) (zm4.2 _) nf_X9_80 hl.1 rfl rfl (Nat.le_of_ble_eq_true rfl) dX9_harmOf_14 ⟨Nat.le_of_ble_eq_true rfl, Nat.le_of_ble_eq_true rfl⟩ ⟨Nat.le_refl _, Nat.le_refl _⟩) (us2 := [uX9 G o_t a_t v_t]) rfl (fun H locs h => ?_)
    refine lv_if_eq (tgt := 29) C.hx C.hb dX9_harmOf_17 (by decide) (fun zc5 => ?_) (fun zc5 => ?_)
    · replace hf := it_t zc5 hf
      refine lv_iinc (v := y3 + 1) (lv' := [(3, .int (y3 + 1)), (0, .ref o_t), (1, .int y1), (2, .int y2)]) C.hx C.hb dX9_harmOf_29 hl (k := 3) rfl rfl (by decide) rfl (fun ls hl => ?_)
      refine lv_goto (tgt := 4) C.hx C.hb dX9_harmOf_32 (by decide) ?_
      exact hg4 hf h (lv_sub hl [1, 2, 3, 0] rfl)
    · replace hf := it_f zc5 hf
      refine lv_iload_n C.hx C.hb dX9_harmOf_20 rfl (lv_at hl 2 rfl) ?_
      refine lv_aload_n C.hx C.hb dX9_harmOf_21 rfl (lv_at hl 0 rfl) ?_
      refine g_get C h fl_X9_25 0 0 rfl rfl (v := .ref (a_t 4)) rfl dX9_harmOf_22 ?_
      refine lv_iload_n C.hx C.hb dX9_harmOf_25 rfl (lv_at hl 3 rfl) ?_
      obtain ⟨zi6, hf⟩ := ck_some hf
      refine g_iald C h 0 4 rfl rfl (f := v_t.2.2 4) zi6 dX9_harmOf_26 ?_
      refine lv_iadd C.hx C.hb dX9_harmOf_27 ?_
      refine lv_istore_n (lv' := [(2, .int (y2 + ((v_t.2.2 4) y3.toNatClampNeg))), (0, .ref o_t), (1, .int y1), (3, .int y3)]) C.hx C.hb dX9_harmOf_28 rfl hl (by decide) rfl (fun ls hl => ?_)
      refine lv_iinc (v := y3 + 1) (lv' := [(3, .int (y3 + 1)), (2, .int (y2 + ((v_t.2.2 4) y3.toNatClampNeg))), (0, .ref o_t), (1, .int y1)]) C.hx C.hb dX9_harmOf_29 hl (k := 3) rfl rfl (by decide) rfl (fun ls hl => ?_)
      refine lv_goto (tgt := 4) C.hx C.hb dX9_harmOf_32 (by decide) ?_
      exact hg4 hf h (lv_sub hl [2, 3, 1, 0] rfl)
set_option maxRecDepth 100000 in
set_option maxHeartbeats 4000000 in
theorem l_X9_harmOf_4 {p : Program} {l : Launch} {e : Env} {s : State} {m : MethodId} {args : Array Value} {below : List Frame} {meth : Method} {c : Code} {G : GG} {A : Nat → Prop} {o_t : Nat} {a_t : Nat → Nat} {N : Nat}  {res : Int32} (C : MC RX9 cX9_harmOf 4 (some .int) G A p s m args meth c)  : ∀ (k : Nat) {v_t : US} {y1 : Int32} {y2 : Int32} {y3 : Int32}, f_X9_harmOf_4 N k v_t y1 y2 y3 = some res → ∀ {H : Heap} {locs : List Loc} {ls : Array Slot}, HP G A s [uX9 G o_t a_t v_t] H locs → lv_has ls 4 [(0, .ref o_t), (1, .int y1), (2, .int y2), (3, .int y3)] → W p l e (rmm 2) s m args below meth c H locs 0 0 (QI below G A args s res [uX9 G o_t a_t v_t]) (F0 m 4 ls []) := by
  intro k
  induction k with
  | zero => intros; contradiction
  | succ k ih =>
    intro v_t y1 y2 y3 hf H locs ls h hl
    exact w_X9_harmOf_4 (N := N) C ih hf h hl
set_option maxRecDepth 100000 in
set_option maxHeartbeats 4000000 in
theorem c_X9_harmOf (l : Launch) (G : GG) (o_t : Nat) (a_t : Nat → Nat) (N : Nat) {v_t : US} {x1 : Int32} {res : Int32} (hf : f_X9_harmOf N v_t x1 = some res) : MI l yX9_harmOf cX9_harmOf 4 (some .int) 2 [.ref o_t, .int x1] G [uX9 G o_t a_t v_t] res [uX9 G o_t a_t v_t] := by
  unfold f_X9_harmOf at hf
  refine MI.intro (by decide) rfl (Nat.le_of_ble_eq_true rfl) (fun p e s m args below meth c A ls C h hl => ?_)
  have C : MC RX9 cX9_harmOf 4 (some .int) G A p s m args meth c := C
  have hl : lv_has ls 4 [(0, .ref o_t), (1, .int x1)] := hl
  refine lv_iconst (v := 0) C.hx C.hb dX9_harmOf_0 (by decide) ?_
  refine lv_istore_n (lv' := [(2, .int 0), (0, .ref o_t), (1, .int x1)]) C.hx C.hb dX9_harmOf_1 rfl hl (by decide) rfl (fun ls hl => ?_)
  refine lv_iconst (v := 0) C.hx C.hb dX9_harmOf_2 (by decide) ?_
  refine lv_istore_n (lv' := [(3, .int 0), (2, .int 0), (0, .ref o_t), (1, .int x1)]) C.hx C.hb dX9_harmOf_3 rfl hl (by decide) rfl (fun ls hl => ?_)
  exact l_X9_harmOf_4 C N hf h (lv_sub hl [2, 3, 1, 0] rfl)
end
section
def kBec (k : Int32) (z : Bool) (mv sp : Int32) : Bool := if k = 1 then z || decide (sp ≤ mv) else if k = 2 then z && !decide (sp ≤ mv) else if k = 3 then z != decide (sp ≤ mv) else if k = 4 then decide (mv < sp + 3) && (z || decide (sp ≤ mv)) else decide (sp ≤ mv)
def kad (a : Nat → Nat) (k : Int32) : Nat := if k = 1 then a 1 else if k = 2 then a 2 else if k = 3 then a 3 else if k = 4 then a 4 else a 0
theorem pf_X3_7 : PF RX3 7 yX1_becomes cX1_becomes 4 (some .boolean) 3 := ⟨goodIn_gtA (fun z hz => by
  simp only [List.mem_cons, List.not_mem_nil, or_false] at hz
  rcases hz with rfl | rfl | rfl | rfl | rfl
  · exact (gt_of (w := .methodLink RX3 7 yX1_becomes) 603 (by decide +kernel) rfl)
  · exact (gt_of (w := .sameMethod "OneBell$Door" "OneBell$Door" "becomes" "(ZII)Z") 599 (by decide +kernel) rfl)
  · exact (gt_of (w := .superclass RX3 RX1) 136 (by decide +kernel) rfl)
  · exact (gt_of (w := .instanceMethod yX1_becomes) 597 (by decide +kernel) rfl)
  · exact (gt_of (w := .initialized RX1) 4 (by decide +kernel) rfl)) cd_X1_becomes, by decide +kernel⟩
theorem pf_X4_7 : PF RX4 7 yX1_becomes cX1_becomes 4 (some .boolean) 3 := ⟨goodIn_gtA (fun z hz => by
  simp only [List.mem_cons, List.not_mem_nil, or_false] at hz
  rcases hz with rfl | rfl | rfl | rfl | rfl
  · exact (gt_of (w := .methodLink RX4 7 yX1_becomes) 607 (by decide +kernel) rfl)
  · exact (gt_of (w := .sameMethod "OneBell$Door" "OneBell$Door" "becomes" "(ZII)Z") 599 (by decide +kernel) rfl)
  · exact (gt_of (w := .superclass RX4 RX1) 143 (by decide +kernel) rfl)
  · exact (gt_of (w := .instanceMethod yX1_becomes) 597 (by decide +kernel) rfl)
  · exact (gt_of (w := .initialized RX1) 4 (by decide +kernel) rfl)) cd_X1_becomes, by decide +kernel⟩
theorem pf_X7_9 : PF RX7 9 yX3_becomes cX3_becomes 4 (some .boolean) 3 := ⟨goodIn_gtA (fun z hz => by
  simp only [List.mem_cons, List.not_mem_nil, or_false] at hz
  rcases hz with rfl | rfl | rfl | rfl | rfl
  · exact (gt_of (w := .methodLink RX7 9 yX3_becomes) 611 (by decide +kernel) rfl)
  · exact (gt_of (w := .sameMethod "OneBell$Latch" "OneBell$Latch" "becomes" "(ZII)Z") 1272 (by decide +kernel) rfl)
  · exact (gt_of (w := .superclass RX7 RX3) 157 (by decide +kernel) rfl)
  · exact (gt_of (w := .instanceMethod yX3_becomes) 601 (by decide +kernel) rfl)
  · exact (gt_of (w := .initialized RX3) 5 (by decide +kernel) rfl)) cd_X3_becomes, by decide +kernel⟩
theorem pf_X10_7 : PF RX10 7 yX3_becomes cX3_becomes 4 (some .boolean) 3 := ⟨goodIn_gtA (fun z hz => by
  simp only [List.mem_cons, List.not_mem_nil, or_false] at hz
  rcases hz with rfl | rfl | rfl | rfl | rfl
  · exact (gt_of (w := .methodLink RX10 7 yX3_becomes) 615 (by decide +kernel) rfl)
  · exact (gt_of (w := .sameMethod "OneBell$Latch" "OneBell$Latch" "becomes" "(ZII)Z") 1272 (by decide +kernel) rfl)
  · exact (gt_of (w := .superclass RX10 RX3) 150 (by decide +kernel) rfl)
  · exact (gt_of (w := .instanceMethod yX3_becomes) 601 (by decide +kernel) rfl)
  · exact (gt_of (w := .initialized RX3) 5 (by decide +kernel) rfl)) cd_X3_becomes, by decide +kernel⟩
theorem uf_X8_63_X3 : UF RX8 63 3 yX1_becomes yX3_becomes cX3_becomes 4 (some .boolean) 3 := ⟨TX3, 0, "OneBell$Door", cX1_becomes, 4, some .boolean, rfl, goodIn_gtA (fun z hz => by
  simp only [List.mem_cons, List.not_mem_nil, or_false] at hz
  rcases hz with rfl | rfl | rfl | rfl | rfl | rfl
  · exact (gt_of (w := .methodLink RX8 63 yX1_becomes) 596 (by decide +kernel) rfl)
  · exact (gt_of (w := .sameMethod "OneBell$Door" "OneBell$Door" "becomes" "(ZII)Z") 599 (by decide +kernel) rfl)
  · exact (gt_of (w := .instanceMethod ⟨"OneBell$Door", "becomes", "(ZII)Z"⟩) 597 (by decide +kernel) rfl)
  · exact (gt_of (w := .selects RX3 yX1_becomes yX3_becomes) 600 (by decide +kernel) rfl)
  · exact (gt_of (w := .instanceMethod yX3_becomes) 601 (by decide +kernel) rfl)
  · exact (gt_of (w := .initialized RX3) 5 (by decide +kernel) rfl)) cd_X3_becomes, cd_X1_becomes, by decide +kernel⟩
theorem uf_X8_63_X4 : UF RX8 63 4 yX1_becomes yX4_becomes cX4_becomes 4 (some .boolean) 3 := ⟨TX4, 0, "OneBell$Door", cX1_becomes, 4, some .boolean, rfl, goodIn_gtA (fun z hz => by
  simp only [List.mem_cons, List.not_mem_nil, or_false] at hz
  rcases hz with rfl | rfl | rfl | rfl | rfl | rfl
  · exact (gt_of (w := .methodLink RX8 63 yX1_becomes) 596 (by decide +kernel) rfl)
  · exact (gt_of (w := .sameMethod "OneBell$Door" "OneBell$Door" "becomes" "(ZII)Z") 599 (by decide +kernel) rfl)
  · exact (gt_of (w := .instanceMethod ⟨"OneBell$Door", "becomes", "(ZII)Z"⟩) 597 (by decide +kernel) rfl)
  · exact (gt_of (w := .selects RX4 yX1_becomes yX4_becomes) 604 (by decide +kernel) rfl)
  · exact (gt_of (w := .instanceMethod yX4_becomes) 605 (by decide +kernel) rfl)
  · exact (gt_of (w := .initialized RX4) 6 (by decide +kernel) rfl)) cd_X4_becomes, cd_X1_becomes, by decide +kernel⟩
theorem uf_X8_63_X10 : UF RX8 63 10 yX1_becomes yX10_becomes cX10_becomes 4 (some .boolean) 3 := ⟨TX10, 0, "OneBell$Door", cX1_becomes, 4, some .boolean, rfl, goodIn_gtA (fun z hz => by
  simp only [List.mem_cons, List.not_mem_nil, or_false] at hz
  rcases hz with rfl | rfl | rfl | rfl | rfl | rfl
  · exact (gt_of (w := .methodLink RX8 63 yX1_becomes) 596 (by decide +kernel) rfl)
  · exact (gt_of (w := .sameMethod "OneBell$Door" "OneBell$Door" "becomes" "(ZII)Z") 599 (by decide +kernel) rfl)
  · exact (gt_of (w := .instanceMethod ⟨"OneBell$Door", "becomes", "(ZII)Z"⟩) 597 (by decide +kernel) rfl)
  · exact (gt_of (w := .selects RX10 yX1_becomes yX10_becomes) 612 (by decide +kernel) rfl)
  · exact (gt_of (w := .instanceMethod yX10_becomes) 613 (by decide +kernel) rfl)
  · exact (gt_of (w := .initialized RX10) 7 (by decide +kernel) rfl)) cd_X10_becomes, cd_X1_becomes, by decide +kernel⟩
theorem uf_X8_63_X7 : UF RX8 63 7 yX1_becomes yX7_becomes cX7_becomes 4 (some .boolean) 3 := ⟨TX7, 0, "OneBell$Door", cX1_becomes, 4, some .boolean, rfl, goodIn_gtA (fun z hz => by
  simp only [List.mem_cons, List.not_mem_nil, or_false] at hz
  rcases hz with rfl | rfl | rfl | rfl | rfl | rfl
  · exact (gt_of (w := .methodLink RX8 63 yX1_becomes) 596 (by decide +kernel) rfl)
  · exact (gt_of (w := .sameMethod "OneBell$Door" "OneBell$Door" "becomes" "(ZII)Z") 599 (by decide +kernel) rfl)
  · exact (gt_of (w := .instanceMethod ⟨"OneBell$Door", "becomes", "(ZII)Z"⟩) 597 (by decide +kernel) rfl)
  · exact (gt_of (w := .selects RX7 yX1_becomes yX7_becomes) 608 (by decide +kernel) rfl)
  · exact (gt_of (w := .instanceMethod yX7_becomes) 609 (by decide +kernel) rfl)
  · exact (gt_of (w := .initialized RX7) 8 (by decide +kernel) rfl)) cd_X7_becomes, cd_X1_becomes, by decide +kernel⟩
theorem vb_X8_63 : VF RX8 63 1 yX1_becomes cX1_becomes 4 (some .boolean) 3 := VF.mk rfl (by decide +kernel) (gt_of (w := .methodLink RX8 63 yX1_becomes) 596 (by decide +kernel) rfl) (gt_of (w := .instanceMethod yX1_becomes) 597 (by decide +kernel) rfl) (gt_of (w := .selects RX1 yX1_becomes yX1_becomes) 598 (by decide +kernel) rfl) (gt_of (w := .initialized RX1) 4 (by decide +kernel) rfl) cd_X1_becomes
theorem uf_X6_78_X3 : UF RX6 78 3 yX1_becomes yX3_becomes cX3_becomes 4 (some .boolean) 3 := ⟨TX3, 0, "OneBell$Door", cX1_becomes, 4, some .boolean, rfl, goodIn_gtA (fun z hz => by
  simp only [List.mem_cons, List.not_mem_nil, or_false] at hz
  rcases hz with rfl | rfl | rfl | rfl | rfl | rfl
  · exact (gt_of (w := .methodLink RX6 78 yX1_becomes) 779 (by decide +kernel) rfl)
  · exact (gt_of (w := .sameMethod "OneBell$Door" "OneBell$Door" "becomes" "(ZII)Z") 599 (by decide +kernel) rfl)
  · exact (gt_of (w := .instanceMethod ⟨"OneBell$Door", "becomes", "(ZII)Z"⟩) 597 (by decide +kernel) rfl)
  · exact (gt_of (w := .selects RX3 yX1_becomes yX3_becomes) 600 (by decide +kernel) rfl)
  · exact (gt_of (w := .instanceMethod yX3_becomes) 601 (by decide +kernel) rfl)
  · exact (gt_of (w := .initialized RX3) 5 (by decide +kernel) rfl)) cd_X3_becomes, cd_X1_becomes, by decide +kernel⟩
theorem uf_X6_78_X4 : UF RX6 78 4 yX1_becomes yX4_becomes cX4_becomes 4 (some .boolean) 3 := ⟨TX4, 0, "OneBell$Door", cX1_becomes, 4, some .boolean, rfl, goodIn_gtA (fun z hz => by
  simp only [List.mem_cons, List.not_mem_nil, or_false] at hz
  rcases hz with rfl | rfl | rfl | rfl | rfl | rfl
  · exact (gt_of (w := .methodLink RX6 78 yX1_becomes) 779 (by decide +kernel) rfl)
  · exact (gt_of (w := .sameMethod "OneBell$Door" "OneBell$Door" "becomes" "(ZII)Z") 599 (by decide +kernel) rfl)
  · exact (gt_of (w := .instanceMethod ⟨"OneBell$Door", "becomes", "(ZII)Z"⟩) 597 (by decide +kernel) rfl)
  · exact (gt_of (w := .selects RX4 yX1_becomes yX4_becomes) 604 (by decide +kernel) rfl)
  · exact (gt_of (w := .instanceMethod yX4_becomes) 605 (by decide +kernel) rfl)
  · exact (gt_of (w := .initialized RX4) 6 (by decide +kernel) rfl)) cd_X4_becomes, cd_X1_becomes, by decide +kernel⟩
theorem uf_X6_78_X10 : UF RX6 78 10 yX1_becomes yX10_becomes cX10_becomes 4 (some .boolean) 3 := ⟨TX10, 0, "OneBell$Door", cX1_becomes, 4, some .boolean, rfl, goodIn_gtA (fun z hz => by
  simp only [List.mem_cons, List.not_mem_nil, or_false] at hz
  rcases hz with rfl | rfl | rfl | rfl | rfl | rfl
  · exact (gt_of (w := .methodLink RX6 78 yX1_becomes) 779 (by decide +kernel) rfl)
  · exact (gt_of (w := .sameMethod "OneBell$Door" "OneBell$Door" "becomes" "(ZII)Z") 599 (by decide +kernel) rfl)
  · exact (gt_of (w := .instanceMethod ⟨"OneBell$Door", "becomes", "(ZII)Z"⟩) 597 (by decide +kernel) rfl)
  · exact (gt_of (w := .selects RX10 yX1_becomes yX10_becomes) 612 (by decide +kernel) rfl)
  · exact (gt_of (w := .instanceMethod yX10_becomes) 613 (by decide +kernel) rfl)
  · exact (gt_of (w := .initialized RX10) 7 (by decide +kernel) rfl)) cd_X10_becomes, cd_X1_becomes, by decide +kernel⟩
theorem uf_X6_78_X7 : UF RX6 78 7 yX1_becomes yX7_becomes cX7_becomes 4 (some .boolean) 3 := ⟨TX7, 0, "OneBell$Door", cX1_becomes, 4, some .boolean, rfl, goodIn_gtA (fun z hz => by
  simp only [List.mem_cons, List.not_mem_nil, or_false] at hz
  rcases hz with rfl | rfl | rfl | rfl | rfl | rfl
  · exact (gt_of (w := .methodLink RX6 78 yX1_becomes) 779 (by decide +kernel) rfl)
  · exact (gt_of (w := .sameMethod "OneBell$Door" "OneBell$Door" "becomes" "(ZII)Z") 599 (by decide +kernel) rfl)
  · exact (gt_of (w := .instanceMethod ⟨"OneBell$Door", "becomes", "(ZII)Z"⟩) 597 (by decide +kernel) rfl)
  · exact (gt_of (w := .selects RX7 yX1_becomes yX7_becomes) 608 (by decide +kernel) rfl)
  · exact (gt_of (w := .instanceMethod yX7_becomes) 609 (by decide +kernel) rfl)
  · exact (gt_of (w := .initialized RX7) 8 (by decide +kernel) rfl)) cd_X7_becomes, cd_X1_becomes, by decide +kernel⟩
theorem vb_X6_78 : VF RX6 78 1 yX1_becomes cX1_becomes 4 (some .boolean) 3 := VF.mk rfl (by decide +kernel) (gt_of (w := .methodLink RX6 78 yX1_becomes) 779 (by decide +kernel) rfl) (gt_of (w := .instanceMethod yX1_becomes) 597 (by decide +kernel) rfl) (gt_of (w := .selects RX1 yX1_becomes yX1_becomes) 598 (by decide +kernel) rfl) (gt_of (w := .initialized RX1) 4 (by decide +kernel) rfl) cd_X1_becomes
def f_X1_becomes  (z1 : Bool) (x2 : Int32) (x3 : Int32) : Option (Bool) :=
  if x2 < x3 then (some (false)) else (some (true))
set_option maxRecDepth 100000 in
set_option maxHeartbeats 4000000 in
theorem c_X1_becomes (l : Launch) (G : GG) (o_t : Nat)  {z1 : Bool} {x2 : Int32} {x3 : Int32} {res : Bool} (hf : f_X1_becomes z1 x2 x3 = some res) : MI l yX1_becomes cX1_becomes 4 (some .boolean) 1 [.ref o_t, .int (b2i z1), .int x2, .int x3] G [] (b2i res) [] := by
  unfold f_X1_becomes at hf
  refine MI.intro (by decide) rfl (Nat.le_of_ble_eq_true rfl) (fun p e s m args below meth c A ls C h hl => ?_)
  have C : MC RX1 cX1_becomes 4 (some .boolean) G A p s m args meth c := C
  have hl : lv_has ls 4 [(0, .ref o_t), (1, .int (b2i z1)), (2, .int x2), (3, .int x3)] := hl
  refine lv_iload_n C.hx C.hb dX1_becomes_0 rfl (lv_at hl 2 rfl) ?_
  refine lv_iload_n C.hx C.hb dX1_becomes_1 rfl (lv_at hl 3 rfl) ?_
  refine lv_icmp_lt (tgt := 9) C.hx C.hb dX1_becomes_2 (by decide) (fun zc1 => ?_) (fun zc1 => ?_)
  · replace hf := it_t zc1 hf
    refine lv_iconst (v := 0) C.hx C.hb dX1_becomes_9 (by decide) ?_
    obtain rfl := Option.some.inj hf
    exact g_ret_z (b := false) C h rfl rfl rfl dX1_becomes_10
  · replace hf := it_f zc1 hf
    refine lv_iconst (v := 1) C.hx C.hb dX1_becomes_5 (by decide) ?_
    refine lv_goto (tgt := 10) C.hx C.hb dX1_becomes_6 (by decide) ?_
    obtain rfl := Option.some.inj hf
    exact g_ret_z (b := true) C h rfl rfl rfl dX1_becomes_10

def f_X3_becomes (z1 : Bool) (x2 x3 : Int32) : Option Bool :=
  if (b2i z1) = 0 then ((f_X1_becomes z1 x2 x3).bind fun zr2 => if (b2i zr2) = 0 then (some (false)) else (some (true))) else (some (true))
set_option maxRecDepth 100000 in
set_option maxHeartbeats 4000000 in
theorem c_X3_becomes (l : Launch) (G : GG) (o_k : Nat) (a_k : Nat → Nat) {o_t j ci : Nat} {q : vw_C} (hcq : vwCl[ci]? = some q) (hcc : (uX2 G o_k a_k)[j]? = some (o_t, .inr (ci, []))) {z1 : Bool} {x2 x3 : Int32} {res : Bool} (hf : f_X3_becomes z1 x2 x3 = some res) : MI l yX3_becomes cX3_becomes 4 (some .boolean) 2 [.ref o_t, .int (b2i z1), .int x2, .int x3] G [uX2 G o_k a_k] (b2i res) [uX2 G o_k a_k] := by
  unfold f_X3_becomes at hf
  refine MI.intro (by decide) rfl (Nat.le_of_ble_eq_true rfl) (fun p e s m args below meth c A ls C h hl => ?_)
  have C : MC RX3 cX3_becomes 4 (some .boolean) G A p s m args meth c := C
  have hl : lv_has ls 4 [(0, .ref o_t), (1, .int (b2i z1)), (2, .int x2), (3, .int x3)] := hl
  refine lv_iload_n C.hx C.hb dX3_becomes_0 rfl (lv_at hl 1 rfl) ?_
  refine lv_if_ne (tgt := 14) C.hx C.hb dX3_becomes_1 (by decide) (fun zc1 => ?_) (fun zc1 => ?_)
  · replace hf := it_f zc1 hf
    refine lv_iconst (v := 1) C.hx C.hb dX3_becomes_14 (by decide) ?_
    refine lv_goto (tgt := 19) C.hx C.hb dX3_becomes_15 (by decide) ?_
    obtain rfl := Option.some.inj hf
    exact g_ret_z (b := true) C h rfl rfl rfl dX3_becomes_19
  · replace hf := it_t zc1 hf
    refine lv_aload_n C.hx C.hb dX3_becomes_4 rfl (lv_at hl 0 rfl) ?_
    refine lv_iload_n C.hx C.hb dX3_becomes_5 rfl (lv_at hl 1 rfl) ?_
    refine lv_iload_n C.hx C.hb dX3_becomes_6 rfl (lv_at hl 2 rfl) ?_
    refine lv_iload_n C.hx C.hb dX3_becomes_7 rfl (lv_at hl 3 rfl) ?_
    obtain ⟨zr2, zq3, hf⟩ := bd_some hf
    have zm4 := c_X1_becomes l G o_t (hf := zq3)
    refine g_goI C h zm4.1 (is := []) rfl rfl (g_runP C h (is := []) rfl rfl (As := [.int (b2i z1), .int x2, .int x3]) (rest := []) (zm4.2 _) pf_X3_7 0 j rfl hcq hcc hl.1 rfl rfl (Nat.le_of_ble_eq_true rfl) dX3_becomes_8 ⟨Nat.le_of_ble_eq_true rfl, Nat.le_of_ble_eq_true rfl⟩ ⟨Nat.le_refl _, Nat.le_refl _⟩) (us2 := [uX2 G o_k a_k]) rfl (fun H locs h => ?_)
    refine lv_if_eq (tgt := 18) C.hx C.hb dX3_becomes_11 (by decide) (fun zc5 => ?_) (fun zc5 => ?_)
    · replace hf := it_t zc5 hf
      refine lv_iconst (v := 0) C.hx C.hb dX3_becomes_18 (by decide) ?_
      obtain rfl := Option.some.inj hf
      exact g_ret_z (b := false) C h rfl rfl rfl dX3_becomes_19
    · replace hf := it_f zc5 hf
      refine lv_iconst (v := 1) C.hx C.hb dX3_becomes_14 (by decide) ?_
      refine lv_goto (tgt := 19) C.hx C.hb dX3_becomes_15 (by decide) ?_
      obtain rfl := Option.some.inj hf
      exact g_ret_z (b := true) C h rfl rfl rfl dX3_becomes_19
def f_X4_becomes (z1 : Bool) (x2 x3 : Int32) : Option Bool :=
  if (b2i z1) = 0 then (some (false)) else ((f_X1_becomes z1 x2 x3).bind fun zr2 => if (b2i zr2) = 0 then (some (true)) else (some (false)))
set_option maxRecDepth 100000 in
set_option maxHeartbeats 4000000 in
theorem c_X4_becomes (l : Launch) (G : GG) (o_k : Nat) (a_k : Nat → Nat) {o_t j ci : Nat} {q : vw_C} (hcq : vwCl[ci]? = some q) (hcc : (uX2 G o_k a_k)[j]? = some (o_t, .inr (ci, []))) {z1 : Bool} {x2 x3 : Int32} {res : Bool} (hf : f_X4_becomes z1 x2 x3 = some res) : MI l yX4_becomes cX4_becomes 4 (some .boolean) 2 [.ref o_t, .int (b2i z1), .int x2, .int x3] G [uX2 G o_k a_k] (b2i res) [uX2 G o_k a_k] := by
  unfold f_X4_becomes at hf
  refine MI.intro (by decide) rfl (Nat.le_of_ble_eq_true rfl) (fun p e s m args below meth c A ls C h hl => ?_)
  have C : MC RX4 cX4_becomes 4 (some .boolean) G A p s m args meth c := C
  have hl : lv_has ls 4 [(0, .ref o_t), (1, .int (b2i z1)), (2, .int x2), (3, .int x3)] := hl
  refine lv_iload_n C.hx C.hb dX4_becomes_0 rfl (lv_at hl 1 rfl) ?_
  refine lv_if_eq (tgt := 18) C.hx C.hb dX4_becomes_1 (by decide) (fun zc1 => ?_) (fun zc1 => ?_)
  · replace hf := it_t zc1 hf
    refine lv_iconst (v := 0) C.hx C.hb dX4_becomes_18 (by decide) ?_
    obtain rfl := Option.some.inj hf
    exact g_ret_z (b := false) C h rfl rfl rfl dX4_becomes_19
  · replace hf := it_f zc1 hf
    refine lv_aload_n C.hx C.hb dX4_becomes_4 rfl (lv_at hl 0 rfl) ?_
    refine lv_iload_n C.hx C.hb dX4_becomes_5 rfl (lv_at hl 1 rfl) ?_
    refine lv_iload_n C.hx C.hb dX4_becomes_6 rfl (lv_at hl 2 rfl) ?_
    refine lv_iload_n C.hx C.hb dX4_becomes_7 rfl (lv_at hl 3 rfl) ?_
    obtain ⟨zr2, zq3, hf⟩ := bd_some hf
    have zm4 := c_X1_becomes l G o_t (hf := zq3)
    refine g_goI C h zm4.1 (is := []) rfl rfl (g_runP C h (is := []) rfl rfl (As := [.int (b2i z1), .int x2, .int x3]) (rest := []) (zm4.2 _) pf_X4_7 0 j rfl hcq hcc hl.1 rfl rfl (Nat.le_of_ble_eq_true rfl) dX4_becomes_8 ⟨Nat.le_of_ble_eq_true rfl, Nat.le_of_ble_eq_true rfl⟩ ⟨Nat.le_refl _, Nat.le_refl _⟩) (us2 := [uX2 G o_k a_k]) rfl (fun H locs h => ?_)
    refine lv_if_ne (tgt := 18) C.hx C.hb dX4_becomes_11 (by decide) (fun zc5 => ?_) (fun zc5 => ?_)
    · replace hf := it_f zc5 hf
      refine lv_iconst (v := 0) C.hx C.hb dX4_becomes_18 (by decide) ?_
      obtain rfl := Option.some.inj hf
      exact g_ret_z (b := false) C h rfl rfl rfl dX4_becomes_19
    · replace hf := it_t zc5 hf
      refine lv_iconst (v := 1) C.hx C.hb dX4_becomes_14 (by decide) ?_
      refine lv_goto (tgt := 19) C.hx C.hb dX4_becomes_15 (by decide) ?_
      obtain rfl := Option.some.inj hf
      exact g_ret_z (b := true) C h rfl rfl rfl dX4_becomes_19
def f_X7_becomes (z1 : Bool) (x2 x3 : Int32) : Option Bool :=
  if (x3 + 3) ≤ x2 then (some (false)) else ((f_X3_becomes z1 x2 x3).bind fun zr2 => if (b2i zr2) = 0 then (some (false)) else (some (true)))
set_option maxRecDepth 100000 in
set_option maxHeartbeats 4000000 in
theorem c_X7_becomes (l : Launch) (G : GG) (o_k : Nat) (a_k : Nat → Nat) {o_t j ci : Nat} {q : vw_C} (hcq : vwCl[ci]? = some q) (hcc : (uX2 G o_k a_k)[j]? = some (o_t, .inr (ci, []))) {z1 : Bool} {x2 x3 : Int32} {res : Bool} (hf : f_X7_becomes z1 x2 x3 = some res) : MI l yX7_becomes cX7_becomes 4 (some .boolean) 3 [.ref o_t, .int (b2i z1), .int x2, .int x3] G [uX2 G o_k a_k] (b2i res) [uX2 G o_k a_k] := by
  unfold f_X7_becomes at hf
  refine MI.intro (by decide) rfl (Nat.le_of_ble_eq_true rfl) (fun p e s m args below meth c A ls C h hl => ?_)
  have C : MC RX7 cX7_becomes 4 (some .boolean) G A p s m args meth c := C
  have hl : lv_has ls 4 [(0, .ref o_t), (1, .int (b2i z1)), (2, .int x2), (3, .int x3)] := hl
  refine lv_iload_n C.hx C.hb dX7_becomes_0 rfl (lv_at hl 2 rfl) ?_
  refine lv_iload_n C.hx C.hb dX7_becomes_1 rfl (lv_at hl 3 rfl) ?_
  refine lv_iconst (v := 3) C.hx C.hb dX7_becomes_2 (by decide) ?_
  refine lv_iadd C.hx C.hb dX7_becomes_3 ?_
  refine lv_icmp_ge (tgt := 21) C.hx C.hb dX7_becomes_4 (by decide) (fun zc1 => ?_) (fun zc1 => ?_)
  · replace hf := it_t zc1 hf
    refine lv_iconst (v := 0) C.hx C.hb dX7_becomes_21 (by decide) ?_
    obtain rfl := Option.some.inj hf
    exact g_ret_z (b := false) C h rfl rfl rfl dX7_becomes_22
  · replace hf := it_f zc1 hf
    refine lv_aload_n C.hx C.hb dX7_becomes_7 rfl (lv_at hl 0 rfl) ?_
    refine lv_iload_n C.hx C.hb dX7_becomes_8 rfl (lv_at hl 1 rfl) ?_
    refine lv_iload_n C.hx C.hb dX7_becomes_9 rfl (lv_at hl 2 rfl) ?_
    refine lv_iload_n C.hx C.hb dX7_becomes_10 rfl (lv_at hl 3 rfl) ?_
    obtain ⟨zr2, zq3, hf⟩ := bd_some hf
    have zm4 := c_X3_becomes l G o_k a_k hcq hcc (hf := zq3)
    refine g_goI C h zm4.1 (is := [0]) rfl rfl (g_runP C h (is := [0]) rfl rfl (As := [.int (b2i z1), .int x2, .int x3]) (rest := []) (zm4.2 _) pf_X7_9 0 j rfl hcq hcc hl.1 rfl rfl (Nat.le_of_ble_eq_true rfl) dX7_becomes_11 ⟨Nat.le_of_ble_eq_true rfl, Nat.le_of_ble_eq_true rfl⟩ ⟨Nat.le_refl _, Nat.le_refl _⟩) (us2 := [uX2 G o_k a_k]) rfl (fun H locs h => ?_)
    refine lv_if_eq (tgt := 21) C.hx C.hb dX7_becomes_14 (by decide) (fun zc5 => ?_) (fun zc5 => ?_)
    · replace hf := it_t zc5 hf
      refine lv_iconst (v := 0) C.hx C.hb dX7_becomes_21 (by decide) ?_
      obtain rfl := Option.some.inj hf
      exact g_ret_z (b := false) C h rfl rfl rfl dX7_becomes_22
    · replace hf := it_f zc5 hf
      refine lv_iconst (v := 1) C.hx C.hb dX7_becomes_17 (by decide) ?_
      refine lv_goto (tgt := 22) C.hx C.hb dX7_becomes_18 (by decide) ?_
      obtain rfl := Option.some.inj hf
      exact g_ret_z (b := true) C h rfl rfl rfl dX7_becomes_22
def f_X10_becomes (z1 : Bool) (x2 x3 : Int32) : Option Bool :=
  (f_X3_becomes false x2 x3).bind fun zr1 => if (b2i z1) = (b2i zr1) then (some (false)) else (some (true))
set_option maxRecDepth 100000 in
set_option maxHeartbeats 4000000 in
theorem c_X10_becomes (l : Launch) (G : GG) (o_k : Nat) (a_k : Nat → Nat) {o_t j ci : Nat} {q : vw_C} (hcq : vwCl[ci]? = some q) (hcc : (uX2 G o_k a_k)[j]? = some (o_t, .inr (ci, []))) {z1 : Bool} {x2 x3 : Int32} {res : Bool} (hf : f_X10_becomes z1 x2 x3 = some res) : MI l yX10_becomes cX10_becomes 4 (some .boolean) 3 [.ref o_t, .int (b2i z1), .int x2, .int x3] G [uX2 G o_k a_k] (b2i res) [uX2 G o_k a_k] := by
  unfold f_X10_becomes at hf
  refine MI.intro (by decide) rfl (Nat.le_of_ble_eq_true rfl) (fun p e s m args below meth c A ls C h hl => ?_)
  have C : MC RX10 cX10_becomes 4 (some .boolean) G A p s m args meth c := C
  have hl : lv_has ls 4 [(0, .ref o_t), (1, .int (b2i z1)), (2, .int x2), (3, .int x3)] := hl
  refine lv_iload_n C.hx C.hb dX10_becomes_0 rfl (lv_at hl 1 rfl) ?_
  refine lv_aload_n C.hx C.hb dX10_becomes_1 rfl (lv_at hl 0 rfl) ?_
  refine lv_iconst (v := 0) C.hx C.hb dX10_becomes_2 (by decide) ?_
  refine lv_iload_n C.hx C.hb dX10_becomes_3 rfl (lv_at hl 2 rfl) ?_
  refine lv_iload_n C.hx C.hb dX10_becomes_4 rfl (lv_at hl 3 rfl) ?_
  obtain ⟨zr1, zq2, hf⟩ := bd_some hf
  have zm3 := c_X3_becomes l G o_k a_k hcq hcc (hf := zq2)
  refine g_goI C h zm3.1 (is := [0]) rfl rfl (g_runP C h (is := [0]) rfl rfl (As := [.int 0, .int x2, .int x3]) (rest := [.int (b2i z1)]) (zm3.2 _) pf_X10_7 0 j rfl hcq hcc hl.1 rfl rfl (Nat.le_of_ble_eq_true rfl) dX10_becomes_5 ⟨Nat.le_of_ble_eq_true rfl, Nat.le_of_ble_eq_true rfl⟩ ⟨Nat.le_refl _, Nat.le_refl _⟩) (us2 := [uX2 G o_k a_k]) rfl (fun H locs h => ?_)
  refine lv_icmp_eq (tgt := 15) C.hx C.hb dX10_becomes_8 (by decide) (fun zc4 => ?_) (fun zc4 => ?_)
  · replace hf := it_t zc4 hf
    refine lv_iconst (v := 0) C.hx C.hb dX10_becomes_15 (by decide) ?_
    obtain rfl := Option.some.inj hf
    exact g_ret_z (b := false) C h rfl rfl rfl dX10_becomes_16
  · replace hf := it_f zc4 hf
    refine lv_iconst (v := 1) C.hx C.hb dX10_becomes_11 (by decide) ?_
    refine lv_goto (tgt := 16) C.hx C.hb dX10_becomes_12 (by decide) ?_
    obtain rfl := Option.some.inj hf
    exact g_ret_z (b := true) C h rfl rfl rfl dX10_becomes_16
theorem kb_0 (z : Bool) (mv sp : Int32) : f_X1_becomes z mv sp = some (decide (sp ≤ mv)) := by
  unfold f_X1_becomes
  by_cases h : mv < sp
  · rw [if_pos h, decide_eq_false (by rw [Int32.not_le]; exact h)]
  · rw [if_neg h, decide_eq_true (Int32.not_lt.mp h)]
theorem b2i_z (b : Bool) : b2i b = 0 ↔ b = false := by cases b <;> decide
theorem kb_1 (z : Bool) (mv sp : Int32) : f_X3_becomes z mv sp = some (z || decide (sp ≤ mv)) := by
  unfold f_X3_becomes
  rw [kb_0]
  cases z <;> cases decide (sp ≤ mv) <;> rfl
theorem kb_2 (z : Bool) (mv sp : Int32) : f_X4_becomes z mv sp = some (z && !decide (sp ≤ mv)) := by
  unfold f_X4_becomes
  rw [kb_0]
  cases z <;> cases decide (sp ≤ mv) <;> rfl
theorem kb_3 (z : Bool) (mv sp : Int32) : f_X10_becomes z mv sp = some (z != decide (sp ≤ mv)) := by
  unfold f_X10_becomes
  rw [kb_1]
  cases z <;> cases decide (sp ≤ mv) <;> rfl
theorem kb_4 (z : Bool) (mv sp : Int32) : f_X7_becomes z mv sp = some (decide (mv < sp + 3) && (z || decide (sp ≤ mv))) := by
  unfold f_X7_becomes
  rw [kb_1]
  by_cases h : (sp + 3) ≤ mv
  · rw [if_pos h, decide_eq_false (p := mv < sp + 3) (by rw [Int32.not_lt]; exact h)]; rfl
  · rw [if_neg h, decide_eq_true (p := mv < sp + 3) (Int32.not_le.mp h)]
    cases z <;> cases decide (sp ≤ mv) <;> rfl
def BF (own : String) (index : Nat) : Prop := UF own index 3 yX1_becomes yX3_becomes cX3_becomes 4 (some .boolean) 3 ∧ UF own index 4 yX1_becomes yX4_becomes cX4_becomes 4 (some .boolean) 3 ∧ UF own index 10 yX1_becomes yX10_becomes cX10_becomes 4 (some .boolean) 3 ∧ UF own index 7 yX1_becomes yX7_becomes cX7_becomes 4 (some .boolean) 3 ∧ VF own index 1 yX1_becomes cX1_becomes 4 (some .boolean) 3
theorem bf_X8_63 : BF RX8 63 := ⟨uf_X8_63_X3, uf_X8_63_X4, uf_X8_63_X10, uf_X8_63_X7, vb_X8_63⟩
theorem bf_X6_78 : BF RX6 78 := ⟨uf_X6_78_X3, uf_X6_78_X4, uf_X6_78_X10, uf_X6_78_X7, vb_X6_78⟩
theorem set_same {α : Type} {us : List α} {i : Nat} {u : α} (h : us[i]? = some u) : us.set i u = us := by
  apply List.ext_getElem?
  intro j
  by_cases hj : i = j
  · subst hj
    rw [List.getElem?_set_self (List.getElem?_eq_some_iff.mp h).1, h]
  · rw [List.getElem?_set_ne hj]
set_option maxRecDepth 100000 in
set_option maxHeartbeats 4000000 in
theorem g_becomes {own : String} {cc : ByteArray} {nL : Nat} {rt : Option FieldType} {G : GG} {A : Nat → Prop} {p : Program} {l : Launch} {e : Env} {R : Room} {s : State} {m : MethodId} {args : Array Value} {below : List Frame} {meth : Method} {c : Code} {H : Heap} {locs : List Loc} {cells slots : Nat} {Q : State → Prop} {pc : Nat} {ls : Array Slot} {rest : List Value} {us : List va_W} {o : Nat} {a : Nat → Nat} (C : MC own cc nL rt G A p s m args meth c) (h : HP G A s us H locs) {index : Nat} (bf : BF own index) (i : Nat) (hu : us[i]? = some (uX2 G o a)) {k mv sp : Int32} {z : Bool} (hsize : ls.size = nL) (hW : (rest.map fun v => v.category).sum ≤ 8) (hdg : decode cc pc = .ok (.invokevirtual index, 3)) (hR : 4 ≤ R.frames ∧ 203 ≤ R.locals ∧ cells ≤ R.cells ∧ slots ≤ R.slots)
    (kk : ∀ (H1 : Heap) (locs1 : List Loc), HP G A s us H1 locs1 → W p l e R s m args below meth c H1 locs1 cells slots Q (F0 m (pc + 3) ls (.int (b2i (kBec k z mv sp)) :: rest))) : W p l e R s m args below meth c H locs cells slots Q (F0 m pc ls (.int sp :: .int mv :: .int (b2i z) :: .ref (kad a k) :: rest)) := by
  have hC : [i].map (fun i => us[i]?) = [uX2 G o a].map some := by simp only [List.map_cons, List.map_nil, hu]
  have hus : rpU us [i] [uX2 G o a] = us := set_same hu
  unfold kad
  unfold kBec at kk
  by_cases k1 : k = 1
  · rw [if_pos k1]; rw [if_pos k1] at kk
    have hM := c_X3_becomes l G o a (j := 2) (ci := 3) rfl rfl (kb_1 z mv sp)
    exact g_goI C h hM.1 (is := [i]) rfl hC (g_runU C h (is := [i]) rfl hC (As := [.int (b2i z), .int mv, .int sp]) (rest := rest) (hM.2 _) bf.1 i 2 hu rfl hsize rfl rfl hW hdg ⟨by omega, by omega⟩ hR.2.2) hus kk
  rw [if_neg k1]; rw [if_neg k1] at kk
  by_cases k2 : k = 2
  · rw [if_pos k2]; rw [if_pos k2] at kk
    have hM := c_X4_becomes l G o a (j := 3) (ci := 4) rfl rfl (kb_2 z mv sp)
    exact g_goI C h hM.1 (is := [i]) rfl hC (g_runU C h (is := [i]) rfl hC (As := [.int (b2i z), .int mv, .int sp]) (rest := rest) (hM.2 _) bf.2.1 i 3 hu rfl hsize rfl rfl hW hdg ⟨by omega, by omega⟩ hR.2.2) hus kk
  rw [if_neg k2]; rw [if_neg k2] at kk
  by_cases k3 : k = 3
  · rw [if_pos k3]; rw [if_pos k3] at kk
    have hM := c_X10_becomes l G o a (j := 4) (ci := 10) rfl rfl (kb_3 z mv sp)
    exact g_goI C h hM.1 (is := [i]) rfl hC (g_runU C h (is := [i]) rfl hC (As := [.int (b2i z), .int mv, .int sp]) (rest := rest) (hM.2 _) bf.2.2.1 i 4 hu rfl hsize rfl rfl hW hdg ⟨by omega, by omega⟩ hR.2.2) hus kk
  rw [if_neg k3]; rw [if_neg k3] at kk
  by_cases k4 : k = 4
  · rw [if_pos k4]; rw [if_pos k4] at kk
    have hM := c_X7_becomes l G o a (j := 5) (ci := 7) rfl rfl (kb_4 z mv sp)
    exact g_goI C h hM.1 (is := [i]) rfl hC (g_runU C h (is := [i]) rfl hC (As := [.int (b2i z), .int mv, .int sp]) (rest := rest) (hM.2 _) bf.2.2.2.1 i 5 hu rfl hsize rfl rfl hW hdg ⟨by omega, by omega⟩ hR.2.2) hus kk
  rw [if_neg k4]; rw [if_neg k4] at kk
  have hM := c_X1_becomes l G (a 0) (kb_0 z mv sp)
  exact g_goI C h hM.1 (is := []) rfl rfl (g_runV C h (is := []) rfl rfl (As := [.int (b2i z), .int mv, .int sp]) (rest := rest) (hM.2 _) bf.2.2.2.2 i 1 hu rfl hsize rfl rfl hW hdg ⟨by omega, by omega⟩ hR.2.2) rfl kk
set_option maxRecDepth 100000 in
set_option maxHeartbeats 4000000 in
theorem c_X2_ofNumber (l : Launch) (G : GG) (o_t : Nat) (a_t : Nat → Nat) (x1 : Int32) : MR l yX2_ofNumber cX2_ofNumber 2 (some (.object "OneBell$Door")) 1 [.ref o_t, .int x1] G [uX2 G o_t a_t] (kad a_t x1) [uX2 G o_t a_t] := by
  obtain ⟨res, hf⟩ : ∃ res, (if x1 = 1 then some (a_t 1) else if x1 = 2 then some (a_t 2) else if x1 = 3 then some (a_t 3) else if x1 = 4 then some (a_t 4) else some (a_t 0)) = some res := by
    by_cases k1 : x1 = 1
    · exact ⟨_, if_pos k1⟩
    rw [if_neg k1]
    by_cases k2 : x1 = 2
    · exact ⟨_, if_pos k2⟩
    rw [if_neg k2]
    by_cases k3 : x1 = 3
    · exact ⟨_, if_pos k3⟩
    rw [if_neg k3]
    by_cases k4 : x1 = 4
    · exact ⟨_, if_pos k4⟩
    exact ⟨_, if_neg k4⟩
  have hres : kad a_t x1 = res := by
    have e := hf
    unfold kad
    by_cases k1 : x1 = 1
    · rw [if_pos k1] at e ⊢; exact Option.some.inj e
    rw [if_neg k1] at e ⊢
    by_cases k2 : x1 = 2
    · rw [if_pos k2] at e ⊢; exact Option.some.inj e
    rw [if_neg k2] at e ⊢
    by_cases k3 : x1 = 3
    · rw [if_pos k3] at e ⊢; exact Option.some.inj e
    rw [if_neg k3] at e ⊢
    by_cases k4 : x1 = 4
    · rw [if_pos k4] at e ⊢; exact Option.some.inj e
    rw [if_neg k4] at e ⊢; exact Option.some.inj e
  rw [hres]
  clear hres
  refine MR.intro (by decide) rfl (Nat.le_of_ble_eq_true rfl) (fun p e s m args below meth c A ls C h hl => ?_)
  have C : MC RX2 cX2_ofNumber 2 (some (.object "OneBell$Door")) G A p s m args meth c := C
  have hl : lv_has ls 2 [(0, .ref o_t), (1, .int x1)] := hl
  refine lv_iload_n C.hx C.hb dX2_ofNumber_0 rfl (lv_at hl 1 rfl) ?_
  by_cases zc1 : x1 = 1
  · replace hf := it_t zc1 hf
    refine lv_tableIn (tgt := 32) (off := 31) C.hx C.hb dX2_ofNumber_1 (by rw [zc1]; decide) (by rw [zc1]; decide) (by rw [zc1]; rfl) (by decide) ?_
    refine lv_aload_n C.hx C.hb dX2_ofNumber_32 rfl (lv_at hl 0 rfl) ?_
    refine g_get C h fl_X2_19 0 0 rfl rfl (v := .ref (a_t 1)) rfl dX2_ofNumber_33 ?_
    cases hf
    exact g_ret_a C h rfl rfl dX2_ofNumber_36
  replace hf := it_f zc1 hf
  by_cases zc2 : x1 = 2
  · replace hf := it_t zc2 hf
    refine lv_tableIn (tgt := 37) (off := 36) C.hx C.hb dX2_ofNumber_1 (by rw [zc2]; decide) (by rw [zc2]; decide) (by rw [zc2]; rfl) (by decide) ?_
    refine lv_aload_n C.hx C.hb dX2_ofNumber_37 rfl (lv_at hl 0 rfl) ?_
    refine g_get C h fl_X2_26 0 0 rfl rfl (v := .ref (a_t 2)) rfl dX2_ofNumber_38 ?_
    cases hf
    exact g_ret_a C h rfl rfl dX2_ofNumber_41
  replace hf := it_f zc2 hf
  by_cases zc3 : x1 = 3
  · replace hf := it_t zc3 hf
    refine lv_tableIn (tgt := 42) (off := 41) C.hx C.hb dX2_ofNumber_1 (by rw [zc3]; decide) (by rw [zc3]; decide) (by rw [zc3]; rfl) (by decide) ?_
    refine lv_aload_n C.hx C.hb dX2_ofNumber_42 rfl (lv_at hl 0 rfl) ?_
    refine g_get C h fl_X2_33 0 0 rfl rfl (v := .ref (a_t 3)) rfl dX2_ofNumber_43 ?_
    cases hf
    exact g_ret_a C h rfl rfl dX2_ofNumber_46
  replace hf := it_f zc3 hf
  by_cases zc4 : x1 = 4
  · replace hf := it_t zc4 hf
    refine lv_tableIn (tgt := 47) (off := 46) C.hx C.hb dX2_ofNumber_1 (by rw [zc4]; decide) (by rw [zc4]; decide) (by rw [zc4]; rfl) (by decide) ?_
    refine lv_aload_n C.hx C.hb dX2_ofNumber_47 rfl (lv_at hl 0 rfl) ?_
    refine g_get C h fl_X2_40 0 0 rfl rfl (v := .ref (a_t 4)) rfl dX2_ofNumber_48 ?_
    cases hf
    exact g_ret_a C h rfl rfl dX2_ofNumber_51
  replace hf := it_f zc4 hf
  refine lv_tableOut (tgt := 52) C.hx C.hb dX2_ofNumber_1 (by have ezc1 := lv_neT (a := 1) zc1 (by decide); have ezc2 := lv_neT (a := 2) zc2 (by decide); have ezc3 := lv_neT (a := 3) zc3 (by decide); have ezc4 := lv_neT (a := 4) zc4 (by decide); omega) (by decide) ?_
  refine lv_aload_n C.hx C.hb dX2_ofNumber_52 rfl (lv_at hl 0 rfl) ?_
  refine g_get C h fl_X2_10 0 0 rfl rfl (v := .ref (a_t 0)) rfl dX2_ofNumber_53 ?_
  cases hf
  exact g_ret_a C h rfl rfl dX2_ofNumber_56
end
