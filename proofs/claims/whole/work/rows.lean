section
-- ===== PART A: goes FIRST, ahead of the names: the tables' words, and 'selects' of the private methods out of them =====
/-- a private method of a class that the tables say can be made, by its rows of tables_1 -/
def lw_okq (q : MethodName × Nat) : Prop := (q.1.cls ≠ "java/lang/invoke/MethodHandle" ∧ q.1.cls ≠ "java/lang/invoke/VarHandle") ∧ Cond.instantiable q.1.cls q.2 ∈ tables_1 ∧ Cond.privateMethod q.1 ∈ tables_1 ∧ Cond.instanceMethod q.1 ∈ tables_1
theorem lw_p0 : lw_okq (⟨"OneBell", "bad", "(I)I"⟩, 13) := ⟨⟨by decide +kernel, by decide +kernel⟩, List.mem_of_getElem? (i := 22) (by decide +kernel), List.mem_of_getElem? (i := 390) (by decide +kernel), List.mem_of_getElem? (i := 391) (by decide +kernel)⟩
theorem lw_p1 : lw_okq (⟨"OneBell", "tooMany", "()I"⟩, 13) := ⟨⟨by decide +kernel, by decide +kernel⟩, List.mem_of_getElem? (i := 22) (by decide +kernel), List.mem_of_getElem? (i := 394) (by decide +kernel), List.mem_of_getElem? (i := 395) (by decide +kernel)⟩
theorem lw_p2 : lw_okq (⟨"OneBell", "refusedNow", "()I"⟩, 13) := ⟨⟨by decide +kernel, by decide +kernel⟩, List.mem_of_getElem? (i := 22) (by decide +kernel), List.mem_of_getElem? (i := 414) (by decide +kernel), List.mem_of_getElem? (i := 415) (by decide +kernel)⟩
theorem lw_p3 : lw_okq (⟨"OneBell$Reader", "nextToken", "()V"⟩, 9) := ⟨⟨by decide +kernel, by decide +kernel⟩, List.mem_of_getElem? (i := 304) (by decide +kernel), List.mem_of_getElem? (i := 445) (by decide +kernel), List.mem_of_getElem? (i := 446) (by decide +kernel)⟩
theorem lw_p4 : lw_okq (⟨"OneBell$Reader", "endOfRun", "(ICC)I"⟩, 9) := ⟨⟨by decide +kernel, by decide +kernel⟩, List.mem_of_getElem? (i := 304) (by decide +kernel), List.mem_of_getElem? (i := 449) (by decide +kernel), List.mem_of_getElem? (i := 450) (by decide +kernel)⟩
theorem lw_p5 : lw_okq (⟨"OneBell$Reader", "takeFigures", "()V"⟩, 9) := ⟨⟨by decide +kernel, by decide +kernel⟩, List.mem_of_getElem? (i := 304) (by decide +kernel), List.mem_of_getElem? (i := 453) (by decide +kernel), List.mem_of_getElem? (i := 454) (by decide +kernel)⟩
theorem lw_p6 : lw_okq (⟨"OneBell$Reader", "takesItem", "()Z"⟩, 9) := ⟨⟨by decide +kernel, by decide +kernel⟩, List.mem_of_getElem? (i := 304) (by decide +kernel), List.mem_of_getElem? (i := 457) (by decide +kernel), List.mem_of_getElem? (i := 458) (by decide +kernel)⟩
theorem lw_p7 : lw_okq (⟨"OneBell$Reader", "isWord", "(Ljava/lang/String;)Z"⟩, 9) := ⟨⟨by decide +kernel, by decide +kernel⟩, List.mem_of_getElem? (i := 304) (by decide +kernel), List.mem_of_getElem? (i := 462) (by decide +kernel), List.mem_of_getElem? (i := 463) (by decide +kernel)⟩
theorem lw_p8 : lw_okq (⟨"OneBell$Reader", "takesThing", "()Z"⟩, 9) := ⟨⟨by decide +kernel, by decide +kernel⟩, List.mem_of_getElem? (i := 304) (by decide +kernel), List.mem_of_getElem? (i := 514) (by decide +kernel), List.mem_of_getElem? (i := 515) (by decide +kernel)⟩
theorem lw_p9 : lw_okq (⟨"OneBell$Reader", "takesNumber", "(III)Z"⟩, 9) := ⟨⟨by decide +kernel, by decide +kernel⟩, List.mem_of_getElem? (i := 304) (by decide +kernel), List.mem_of_getElem? (i := 518) (by decide +kernel), List.mem_of_getElem? (i := 519) (by decide +kernel)⟩
theorem lw_p10 : lw_okq (⟨"OneBell$Reader", "takesCut", "()Z"⟩, 9) := ⟨⟨by decide +kernel, by decide +kernel⟩, List.mem_of_getElem? (i := 304) (by decide +kernel), List.mem_of_getElem? (i := 525) (by decide +kernel), List.mem_of_getElem? (i := 526) (by decide +kernel)⟩
theorem lw_p11 : lw_okq (⟨"OneBell$Reader", "takesDamp", "()Z"⟩, 9) := ⟨⟨by decide +kernel, by decide +kernel⟩, List.mem_of_getElem? (i := 304) (by decide +kernel), List.mem_of_getElem? (i := 531) (by decide +kernel), List.mem_of_getElem? (i := 532) (by decide +kernel)⟩
theorem lw_p12 : lw_okq (⟨"OneBell$Reader", "takesErrand", "()Z"⟩, 9) := ⟨⟨by decide +kernel, by decide +kernel⟩, List.mem_of_getElem? (i := 304) (by decide +kernel), List.mem_of_getElem? (i := 536) (by decide +kernel), List.mem_of_getElem? (i := 537) (by decide +kernel)⟩
theorem lw_p13 : lw_okq (⟨"OneBell$Reader", "takesRule", "()Z"⟩, 9) := ⟨⟨by decide +kernel, by decide +kernel⟩, List.mem_of_getElem? (i := 304) (by decide +kernel), List.mem_of_getElem? (i := 545) (by decide +kernel), List.mem_of_getElem? (i := 546) (by decide +kernel)⟩
theorem lw_p14 : lw_okq (⟨"OneBell$Reader", "takesEndOfItem", "()Z"⟩, 9) := ⟨⟨by decide +kernel, by decide +kernel⟩, List.mem_of_getElem? (i := 304) (by decide +kernel), List.mem_of_getElem? (i := 553) (by decide +kernel), List.mem_of_getElem? (i := 554) (by decide +kernel)⟩
theorem lw_p15 : lw_okq (⟨"OneBell", "isPull", "(II)Z"⟩, 13) := ⟨⟨by decide +kernel, by decide +kernel⟩, List.mem_of_getElem? (i := 22) (by decide +kernel), List.mem_of_getElem? (i := 569) (by decide +kernel), List.mem_of_getElem? (i := 570) (by decide +kernel)⟩
def lw_privs_1 : List (MethodName × Nat) := [(⟨"OneBell", "bad", "(I)I"⟩, 13), (⟨"OneBell", "tooMany", "()I"⟩, 13), (⟨"OneBell", "refusedNow", "()I"⟩, 13), (⟨"OneBell$Reader", "nextToken", "()V"⟩, 9), (⟨"OneBell$Reader", "endOfRun", "(ICC)I"⟩, 9), (⟨"OneBell$Reader", "takeFigures", "()V"⟩, 9), (⟨"OneBell$Reader", "takesItem", "()Z"⟩, 9), (⟨"OneBell$Reader", "isWord", "(Ljava/lang/String;)Z"⟩, 9), (⟨"OneBell$Reader", "takesThing", "()Z"⟩, 9), (⟨"OneBell$Reader", "takesNumber", "(III)Z"⟩, 9), (⟨"OneBell$Reader", "takesCut", "()Z"⟩, 9), (⟨"OneBell$Reader", "takesDamp", "()Z"⟩, 9), (⟨"OneBell$Reader", "takesErrand", "()Z"⟩, 9), (⟨"OneBell$Reader", "takesRule", "()Z"⟩, 9), (⟨"OneBell$Reader", "takesEndOfItem", "()Z"⟩, 9), (⟨"OneBell", "isPull", "(II)Z"⟩, 13)]
theorem lw_r1 : ∀ q ∈ lw_privs_1, lw_okq q := List.forall_mem_cons.mpr ⟨lw_p0, List.forall_mem_cons.mpr ⟨lw_p1, List.forall_mem_cons.mpr ⟨lw_p2, List.forall_mem_cons.mpr ⟨lw_p3, List.forall_mem_cons.mpr ⟨lw_p4, List.forall_mem_cons.mpr ⟨lw_p5, List.forall_mem_cons.mpr ⟨lw_p6, List.forall_mem_cons.mpr ⟨lw_p7, List.forall_mem_cons.mpr ⟨lw_p8, List.forall_mem_cons.mpr ⟨lw_p9, List.forall_mem_cons.mpr ⟨lw_p10, List.forall_mem_cons.mpr ⟨lw_p11, List.forall_mem_cons.mpr ⟨lw_p12, List.forall_mem_cons.mpr ⟨lw_p13, List.forall_mem_cons.mpr ⟨lw_p14, List.forall_mem_cons.mpr ⟨lw_p15, fun _ h => absurd h List.not_mem_nil⟩⟩⟩⟩⟩⟩⟩⟩⟩⟩⟩⟩⟩⟩⟩⟩
theorem lw_p16 : lw_okq (⟨"OneBell", "doSwing", "()I"⟩, 13) := ⟨⟨by decide +kernel, by decide +kernel⟩, List.mem_of_getElem? (i := 22) (by decide +kernel), List.mem_of_getElem? (i := 618) (by decide +kernel), List.mem_of_getElem? (i := 619) (by decide +kernel)⟩
theorem lw_p17 : lw_okq (⟨"OneBell$Day", "findRest", "(LOneBell$Village;IIII)V"⟩, 16) := ⟨⟨by decide +kernel, by decide +kernel⟩, List.mem_of_getElem? (i := 208) (by decide +kernel), List.mem_of_getElem? (i := 683) (by decide +kernel), List.mem_of_getElem? (i := 684) (by decide +kernel)⟩
theorem lw_p18 : lw_okq (⟨"OneBell$Day", "behind", "(II)I"⟩, 16) := ⟨⟨by decide +kernel, by decide +kernel⟩, List.mem_of_getElem? (i := 208) (by decide +kernel), List.mem_of_getElem? (i := 689) (by decide +kernel), List.mem_of_getElem? (i := 690) (by decide +kernel)⟩
theorem lw_p19 : lw_okq (⟨"OneBell$Day", "anyOpens", "(II)Z"⟩, 16) := ⟨⟨by decide +kernel, by decide +kernel⟩, List.mem_of_getElem? (i := 208) (by decide +kernel), List.mem_of_getElem? (i := 753) (by decide +kernel), List.mem_of_getElem? (i := 754) (by decide +kernel)⟩
theorem lw_p20 : lw_okq (⟨"OneBell$SlackSearch", "isSo", "(LOneBell$Village;III)Z"⟩, 9) := ⟨⟨by decide +kernel, by decide +kernel⟩, List.mem_of_getElem? (i := 268) (by decide +kernel), List.mem_of_getElem? (i := 774) (by decide +kernel), List.mem_of_getElem? (i := 775) (by decide +kernel)⟩
theorem lw_p21 : lw_okq (⟨"OneBell$SlackSearch", "sumsFor", "(LOneBell$Village;II)I"⟩, 9) := ⟨⟨by decide +kernel, by decide +kernel⟩, List.mem_of_getElem? (i := 268) (by decide +kernel), List.mem_of_getElem? (i := 782) (by decide +kernel), List.mem_of_getElem? (i := 783) (by decide +kernel)⟩
theorem lw_p22 : lw_okq (⟨"OneBell$SlackSearch", "narrowPairs", "(I)V"⟩, 9) := ⟨⟨by decide +kernel, by decide +kernel⟩, List.mem_of_getElem? (i := 268) (by decide +kernel), List.mem_of_getElem? (i := 791) (by decide +kernel), List.mem_of_getElem? (i := 792) (by decide +kernel)⟩
theorem lw_p23 : lw_okq (⟨"OneBell$SlackSearch", "strikesOut", "()Z"⟩, 9) := ⟨⟨by decide +kernel, by decide +kernel⟩, List.mem_of_getElem? (i := 268) (by decide +kernel), List.mem_of_getElem? (i := 795) (by decide +kernel), List.mem_of_getElem? (i := 796) (by decide +kernel)⟩
theorem lw_p24 : lw_okq (⟨"OneBell$SlackSearch", "fittedBySome", "(I)I"⟩, 9) := ⟨⟨by decide +kernel, by decide +kernel⟩, List.mem_of_getElem? (i := 268) (by decide +kernel), List.mem_of_getElem? (i := 799) (by decide +kernel), List.mem_of_getElem? (i := 800) (by decide +kernel)⟩
theorem lw_p25 : lw_okq (⟨"OneBell$SlackSearch", "fitsFrom", "(I)Z"⟩, 9) := ⟨⟨by decide +kernel, by decide +kernel⟩, List.mem_of_getElem? (i := 268) (by decide +kernel), List.mem_of_getElem? (i := 803) (by decide +kernel), List.mem_of_getElem? (i := 804) (by decide +kernel)⟩
theorem lw_p26 : lw_okq (⟨"OneBell$SlackSearch", "leavesSome", "(II)Z"⟩, 9) := ⟨⟨by decide +kernel, by decide +kernel⟩, List.mem_of_getElem? (i := 268) (by decide +kernel), List.mem_of_getElem? (i := 807) (by decide +kernel), List.mem_of_getElem? (i := 808) (by decide +kernel)⟩
theorem lw_p27 : lw_okq (⟨"OneBell", "keepFraction", "(II)V"⟩, 13) := ⟨⟨by decide +kernel, by decide +kernel⟩, List.mem_of_getElem? (i := 22) (by decide +kernel), List.mem_of_getElem? (i := 835) (by decide +kernel), List.mem_of_getElem? (i := 836) (by decide +kernel)⟩
theorem lw_p28 : lw_okq (⟨"OneBell", "howMany", "(I)I"⟩, 13) := ⟨⟨by decide +kernel, by decide +kernel⟩, List.mem_of_getElem? (i := 22) (by decide +kernel), List.mem_of_getElem? (i := 862) (by decide +kernel), List.mem_of_getElem? (i := 863) (by decide +kernel)⟩
theorem lw_p29 : lw_okq (⟨"OneBellModel", "bad", "(I)I"⟩, 24) := ⟨⟨by decide +kernel, by decide +kernel⟩, List.mem_of_getElem? (i := 878) (by decide +kernel), List.mem_of_getElem? (i := 966) (by decide +kernel), List.mem_of_getElem? (i := 967) (by decide +kernel)⟩
theorem lw_p30 : lw_okq (⟨"OneBellModel", "things", "()I"⟩, 24) := ⟨⟨by decide +kernel, by decide +kernel⟩, List.mem_of_getElem? (i := 878) (by decide +kernel), List.mem_of_getElem? (i := 970) (by decide +kernel), List.mem_of_getElem? (i := 971) (by decide +kernel)⟩
theorem lw_p31 : lw_okq (⟨"OneBellModel", "full", "()I"⟩, 24) := ⟨⟨by decide +kernel, by decide +kernel⟩, List.mem_of_getElem? (i := 878) (by decide +kernel), List.mem_of_getElem? (i := 974) (by decide +kernel), List.mem_of_getElem? (i := 975) (by decide +kernel)⟩
def lw_privs_2 : List (MethodName × Nat) := [(⟨"OneBell", "doSwing", "()I"⟩, 13), (⟨"OneBell$Day", "findRest", "(LOneBell$Village;IIII)V"⟩, 16), (⟨"OneBell$Day", "behind", "(II)I"⟩, 16), (⟨"OneBell$Day", "anyOpens", "(II)Z"⟩, 16), (⟨"OneBell$SlackSearch", "isSo", "(LOneBell$Village;III)Z"⟩, 9), (⟨"OneBell$SlackSearch", "sumsFor", "(LOneBell$Village;II)I"⟩, 9), (⟨"OneBell$SlackSearch", "narrowPairs", "(I)V"⟩, 9), (⟨"OneBell$SlackSearch", "strikesOut", "()Z"⟩, 9), (⟨"OneBell$SlackSearch", "fittedBySome", "(I)I"⟩, 9), (⟨"OneBell$SlackSearch", "fitsFrom", "(I)Z"⟩, 9), (⟨"OneBell$SlackSearch", "leavesSome", "(II)Z"⟩, 9), (⟨"OneBell", "keepFraction", "(II)V"⟩, 13), (⟨"OneBell", "howMany", "(I)I"⟩, 13), (⟨"OneBellModel", "bad", "(I)I"⟩, 24), (⟨"OneBellModel", "things", "()I"⟩, 24), (⟨"OneBellModel", "full", "()I"⟩, 24)]
theorem lw_r2 : ∀ q ∈ lw_privs_2, lw_okq q := List.forall_mem_cons.mpr ⟨lw_p16, List.forall_mem_cons.mpr ⟨lw_p17, List.forall_mem_cons.mpr ⟨lw_p18, List.forall_mem_cons.mpr ⟨lw_p19, List.forall_mem_cons.mpr ⟨lw_p20, List.forall_mem_cons.mpr ⟨lw_p21, List.forall_mem_cons.mpr ⟨lw_p22, List.forall_mem_cons.mpr ⟨lw_p23, List.forall_mem_cons.mpr ⟨lw_p24, List.forall_mem_cons.mpr ⟨lw_p25, List.forall_mem_cons.mpr ⟨lw_p26, List.forall_mem_cons.mpr ⟨lw_p27, List.forall_mem_cons.mpr ⟨lw_p28, List.forall_mem_cons.mpr ⟨lw_p29, List.forall_mem_cons.mpr ⟨lw_p30, List.forall_mem_cons.mpr ⟨lw_p31, fun _ h => absurd h List.not_mem_nil⟩⟩⟩⟩⟩⟩⟩⟩⟩⟩⟩⟩⟩⟩⟩⟩
theorem lw_p32 : lw_okq (⟨"OneBellModel", "isThing", "(I)Z"⟩, 24) := ⟨⟨by decide +kernel, by decide +kernel⟩, List.mem_of_getElem? (i := 878) (by decide +kernel), List.mem_of_getElem? (i := 985) (by decide +kernel), List.mem_of_getElem? (i := 986) (by decide +kernel)⟩
theorem lw_p33 : lw_okq (⟨"OneBellModel", "of", "(II)I"⟩, 24) := ⟨⟨by decide +kernel, by decide +kernel⟩, List.mem_of_getElem? (i := 878) (by decide +kernel), List.mem_of_getElem? (i := 989) (by decide +kernel), List.mem_of_getElem? (i := 990) (by decide +kernel)⟩
theorem lw_p34 : lw_okq (⟨"OneBellModel", "no", "(I)I"⟩, 24) := ⟨⟨by decide +kernel, by decide +kernel⟩, List.mem_of_getElem? (i := 878) (by decide +kernel), List.mem_of_getElem? (i := 993) (by decide +kernel), List.mem_of_getElem? (i := 994) (by decide +kernel)⟩
theorem lw_p35 : lw_okq (⟨"OneBellModel", "isPull", "(II)Z"⟩, 24) := ⟨⟨by decide +kernel, by decide +kernel⟩, List.mem_of_getElem? (i := 878) (by decide +kernel), List.mem_of_getElem? (i := 1005) (by decide +kernel), List.mem_of_getElem? (i := 1006) (by decide +kernel)⟩
theorem lw_p36 : lw_okq (⟨"OneBellModel", "takeNow", "()V"⟩, 24) := ⟨⟨by decide +kernel, by decide +kernel⟩, List.mem_of_getElem? (i := 878) (by decide +kernel), List.mem_of_getElem? (i := 1010) (by decide +kernel), List.mem_of_getElem? (i := 1011) (by decide +kernel)⟩
theorem lw_p37 : lw_okq (⟨"OneBellModel", "takeSlacks", "(I)V"⟩, 24) := ⟨⟨by decide +kernel, by decide +kernel⟩, List.mem_of_getElem? (i := 878) (by decide +kernel), List.mem_of_getElem? (i := 1014) (by decide +kernel), List.mem_of_getElem? (i := 1015) (by decide +kernel)⟩
theorem lw_p38 : lw_okq (⟨"OneBellModel", "wholeNow", "()I"⟩, 24) := ⟨⟨by decide +kernel, by decide +kernel⟩, List.mem_of_getElem? (i := 878) (by decide +kernel), List.mem_of_getElem? (i := 1018) (by decide +kernel), List.mem_of_getElem? (i := 1019) (by decide +kernel)⟩
theorem lw_p39 : lw_okq (⟨"OneBellModel", "onePull", "(II)V"⟩, 24) := ⟨⟨by decide +kernel, by decide +kernel⟩, List.mem_of_getElem? (i := 878) (by decide +kernel), List.mem_of_getElem? (i := 1022) (by decide +kernel), List.mem_of_getElem? (i := 1023) (by decide +kernel)⟩
theorem lw_p40 : lw_okq (⟨"OneBellModel", "goPull", "()I"⟩, 24) := ⟨⟨by decide +kernel, by decide +kernel⟩, List.mem_of_getElem? (i := 878) (by decide +kernel), List.mem_of_getElem? (i := 1026) (by decide +kernel), List.mem_of_getElem? (i := 1027) (by decide +kernel)⟩
theorem lw_p41 : lw_okq (⟨"OneBellModel", "behind", "(I)I"⟩, 24) := ⟨⟨by decide +kernel, by decide +kernel⟩, List.mem_of_getElem? (i := 878) (by decide +kernel), List.mem_of_getElem? (i := 1030) (by decide +kernel), List.mem_of_getElem? (i := 1031) (by decide +kernel)⟩
theorem lw_p42 : lw_okq (⟨"OneBellModel", "moveOf", "(I)I"⟩, 24) := ⟨⟨by decide +kernel, by decide +kernel⟩, List.mem_of_getElem? (i := 878) (by decide +kernel), List.mem_of_getElem? (i := 1034) (by decide +kernel), List.mem_of_getElem? (i := 1035) (by decide +kernel)⟩
theorem lw_p43 : lw_okq (⟨"OneBellModel", "travel", "()I"⟩, 24) := ⟨⟨by decide +kernel, by decide +kernel⟩, List.mem_of_getElem? (i := 878) (by decide +kernel), List.mem_of_getElem? (i := 1038) (by decide +kernel), List.mem_of_getElem? (i := 1039) (by decide +kernel)⟩
theorem lw_p44 : lw_okq (⟨"OneBellModel", "travelOf", "(II)I"⟩, 24) := ⟨⟨by decide +kernel, by decide +kernel⟩, List.mem_of_getElem? (i := 878) (by decide +kernel), List.mem_of_getElem? (i := 1042) (by decide +kernel), List.mem_of_getElem? (i := 1043) (by decide +kernel)⟩
theorem lw_p45 : lw_okq (⟨"OneBellModel", "errands", "()I"⟩, 24) := ⟨⟨by decide +kernel, by decide +kernel⟩, List.mem_of_getElem? (i := 878) (by decide +kernel), List.mem_of_getElem? (i := 1070) (by decide +kernel), List.mem_of_getElem? (i := 1071) (by decide +kernel)⟩
theorem lw_p46 : lw_okq (⟨"OneBellModel", "layOrder", "(I)Z"⟩, 24) := ⟨⟨by decide +kernel, by decide +kernel⟩, List.mem_of_getElem? (i := 878) (by decide +kernel), List.mem_of_getElem? (i := 1083) (by decide +kernel), List.mem_of_getElem? (i := 1084) (by decide +kernel)⟩
theorem lw_p47 : lw_okq (⟨"OneBellModel", "harmOfRow", "()I"⟩, 24) := ⟨⟨by decide +kernel, by decide +kernel⟩, List.mem_of_getElem? (i := 878) (by decide +kernel), List.mem_of_getElem? (i := 1090) (by decide +kernel), List.mem_of_getElem? (i := 1091) (by decide +kernel)⟩
def lw_privs_3 : List (MethodName × Nat) := [(⟨"OneBellModel", "isThing", "(I)Z"⟩, 24), (⟨"OneBellModel", "of", "(II)I"⟩, 24), (⟨"OneBellModel", "no", "(I)I"⟩, 24), (⟨"OneBellModel", "isPull", "(II)Z"⟩, 24), (⟨"OneBellModel", "takeNow", "()V"⟩, 24), (⟨"OneBellModel", "takeSlacks", "(I)V"⟩, 24), (⟨"OneBellModel", "wholeNow", "()I"⟩, 24), (⟨"OneBellModel", "onePull", "(II)V"⟩, 24), (⟨"OneBellModel", "goPull", "()I"⟩, 24), (⟨"OneBellModel", "behind", "(I)I"⟩, 24), (⟨"OneBellModel", "moveOf", "(I)I"⟩, 24), (⟨"OneBellModel", "travel", "()I"⟩, 24), (⟨"OneBellModel", "travelOf", "(II)I"⟩, 24), (⟨"OneBellModel", "errands", "()I"⟩, 24), (⟨"OneBellModel", "layOrder", "(I)Z"⟩, 24), (⟨"OneBellModel", "harmOfRow", "()I"⟩, 24)]
theorem lw_r3 : ∀ q ∈ lw_privs_3, lw_okq q := List.forall_mem_cons.mpr ⟨lw_p32, List.forall_mem_cons.mpr ⟨lw_p33, List.forall_mem_cons.mpr ⟨lw_p34, List.forall_mem_cons.mpr ⟨lw_p35, List.forall_mem_cons.mpr ⟨lw_p36, List.forall_mem_cons.mpr ⟨lw_p37, List.forall_mem_cons.mpr ⟨lw_p38, List.forall_mem_cons.mpr ⟨lw_p39, List.forall_mem_cons.mpr ⟨lw_p40, List.forall_mem_cons.mpr ⟨lw_p41, List.forall_mem_cons.mpr ⟨lw_p42, List.forall_mem_cons.mpr ⟨lw_p43, List.forall_mem_cons.mpr ⟨lw_p44, List.forall_mem_cons.mpr ⟨lw_p45, List.forall_mem_cons.mpr ⟨lw_p46, List.forall_mem_cons.mpr ⟨lw_p47, fun _ h => absurd h List.not_mem_nil⟩⟩⟩⟩⟩⟩⟩⟩⟩⟩⟩⟩⟩⟩⟩⟩
theorem lw_p48 : lw_okq (⟨"OneBellModel", "doErrand", "(II)I"⟩, 24) := ⟨⟨by decide +kernel, by decide +kernel⟩, List.mem_of_getElem? (i := 878) (by decide +kernel), List.mem_of_getElem? (i := 1094) (by decide +kernel), List.mem_of_getElem? (i := 1095) (by decide +kernel)⟩
theorem lw_p49 : lw_okq (⟨"OneBellModel", "harmOf", "(I)I"⟩, 24) := ⟨⟨by decide +kernel, by decide +kernel⟩, List.mem_of_getElem? (i := 878) (by decide +kernel), List.mem_of_getElem? (i := 1098) (by decide +kernel), List.mem_of_getElem? (i := 1099) (by decide +kernel)⟩
theorem lw_p50 : lw_okq (⟨"OneBellModel", "isSet", "(I)Z"⟩, 24) := ⟨⟨by decide +kernel, by decide +kernel⟩, List.mem_of_getElem? (i := 878) (by decide +kernel), List.mem_of_getElem? (i := 1106) (by decide +kernel), List.mem_of_getElem? (i := 1107) (by decide +kernel)⟩
theorem lw_p51 : lw_okq (⟨"OneBellModel", "all", "()I"⟩, 24) := ⟨⟨by decide +kernel, by decide +kernel⟩, List.mem_of_getElem? (i := 878) (by decide +kernel), List.mem_of_getElem? (i := 1110) (by decide +kernel), List.mem_of_getElem? (i := 1111) (by decide +kernel)⟩
theorem lw_p52 : lw_okq (⟨"OneBellModel", "findFar", "(I)V"⟩, 24) := ⟨⟨by decide +kernel, by decide +kernel⟩, List.mem_of_getElem? (i := 878) (by decide +kernel), List.mem_of_getElem? (i := 1114) (by decide +kernel), List.mem_of_getElem? (i := 1115) (by decide +kernel)⟩
theorem lw_p53 : lw_okq (⟨"OneBellModel", "rules", "()I"⟩, 24) := ⟨⟨by decide +kernel, by decide +kernel⟩, List.mem_of_getElem? (i := 878) (by decide +kernel), List.mem_of_getElem? (i := 1134) (by decide +kernel), List.mem_of_getElem? (i := 1135) (by decide +kernel)⟩
theorem lw_p54 : lw_okq (⟨"OneBellModel", "findSlacks", "(I)Z"⟩, 24) := ⟨⟨by decide +kernel, by decide +kernel⟩, List.mem_of_getElem? (i := 878) (by decide +kernel), List.mem_of_getElem? (i := 1149) (by decide +kernel), List.mem_of_getElem? (i := 1150) (by decide +kernel)⟩
theorem lw_p55 : lw_okq (⟨"OneBellModel", "isSo", "(I)Z"⟩, 24) := ⟨⟨by decide +kernel, by decide +kernel⟩, List.mem_of_getElem? (i := 878) (by decide +kernel), List.mem_of_getElem? (i := 1153) (by decide +kernel), List.mem_of_getElem? (i := 1154) (by decide +kernel)⟩
theorem lw_p56 : lw_okq (⟨"OneBellModel", "harmBy", "(I)I"⟩, 24) := ⟨⟨by decide +kernel, by decide +kernel⟩, List.mem_of_getElem? (i := 878) (by decide +kernel), List.mem_of_getElem? (i := 1168) (by decide +kernel), List.mem_of_getElem? (i := 1169) (by decide +kernel)⟩
theorem lw_p57 : lw_okq (⟨"OneBellModel", "look", "(I)V"⟩, 24) := ⟨⟨by decide +kernel, by decide +kernel⟩, List.mem_of_getElem? (i := 878) (by decide +kernel), List.mem_of_getElem? (i := 1186) (by decide +kernel), List.mem_of_getElem? (i := 1187) (by decide +kernel)⟩
theorem lw_p58 : lw_okq (⟨"OneBellModel", "readsItem", "()Z"⟩, 24) := ⟨⟨by decide +kernel, by decide +kernel⟩, List.mem_of_getElem? (i := 878) (by decide +kernel), List.mem_of_getElem? (i := 1200) (by decide +kernel), List.mem_of_getElem? (i := 1201) (by decide +kernel)⟩
theorem lw_p59 : lw_okq (⟨"OneBellModel", "isWord", "(IIIIII)Z"⟩, 24) := ⟨⟨by decide +kernel, by decide +kernel⟩, List.mem_of_getElem? (i := 878) (by decide +kernel), List.mem_of_getElem? (i := 1204) (by decide +kernel), List.mem_of_getElem? (i := 1205) (by decide +kernel)⟩
theorem lw_p60 : lw_okq (⟨"OneBellModel", "readsThing", "()Z"⟩, 24) := ⟨⟨by decide +kernel, by decide +kernel⟩, List.mem_of_getElem? (i := 878) (by decide +kernel), List.mem_of_getElem? (i := 1208) (by decide +kernel), List.mem_of_getElem? (i := 1209) (by decide +kernel)⟩
theorem lw_p61 : lw_okq (⟨"OneBellModel", "goOn", "()V"⟩, 24) := ⟨⟨by decide +kernel, by decide +kernel⟩, List.mem_of_getElem? (i := 878) (by decide +kernel), List.mem_of_getElem? (i := 1212) (by decide +kernel), List.mem_of_getElem? (i := 1213) (by decide +kernel)⟩
theorem lw_p62 : lw_okq (⟨"OneBellModel", "takes", "(III)Z"⟩, 24) := ⟨⟨by decide +kernel, by decide +kernel⟩, List.mem_of_getElem? (i := 878) (by decide +kernel), List.mem_of_getElem? (i := 1216) (by decide +kernel), List.mem_of_getElem? (i := 1217) (by decide +kernel)⟩
theorem lw_p63 : lw_okq (⟨"OneBellModel", "readsCut", "()Z"⟩, 24) := ⟨⟨by decide +kernel, by decide +kernel⟩, List.mem_of_getElem? (i := 878) (by decide +kernel), List.mem_of_getElem? (i := 1220) (by decide +kernel), List.mem_of_getElem? (i := 1221) (by decide +kernel)⟩
def lw_privs_4 : List (MethodName × Nat) := [(⟨"OneBellModel", "doErrand", "(II)I"⟩, 24), (⟨"OneBellModel", "harmOf", "(I)I"⟩, 24), (⟨"OneBellModel", "isSet", "(I)Z"⟩, 24), (⟨"OneBellModel", "all", "()I"⟩, 24), (⟨"OneBellModel", "findFar", "(I)V"⟩, 24), (⟨"OneBellModel", "rules", "()I"⟩, 24), (⟨"OneBellModel", "findSlacks", "(I)Z"⟩, 24), (⟨"OneBellModel", "isSo", "(I)Z"⟩, 24), (⟨"OneBellModel", "harmBy", "(I)I"⟩, 24), (⟨"OneBellModel", "look", "(I)V"⟩, 24), (⟨"OneBellModel", "readsItem", "()Z"⟩, 24), (⟨"OneBellModel", "isWord", "(IIIIII)Z"⟩, 24), (⟨"OneBellModel", "readsThing", "()Z"⟩, 24), (⟨"OneBellModel", "goOn", "()V"⟩, 24), (⟨"OneBellModel", "takes", "(III)Z"⟩, 24), (⟨"OneBellModel", "readsCut", "()Z"⟩, 24)]
theorem lw_r4 : ∀ q ∈ lw_privs_4, lw_okq q := List.forall_mem_cons.mpr ⟨lw_p48, List.forall_mem_cons.mpr ⟨lw_p49, List.forall_mem_cons.mpr ⟨lw_p50, List.forall_mem_cons.mpr ⟨lw_p51, List.forall_mem_cons.mpr ⟨lw_p52, List.forall_mem_cons.mpr ⟨lw_p53, List.forall_mem_cons.mpr ⟨lw_p54, List.forall_mem_cons.mpr ⟨lw_p55, List.forall_mem_cons.mpr ⟨lw_p56, List.forall_mem_cons.mpr ⟨lw_p57, List.forall_mem_cons.mpr ⟨lw_p58, List.forall_mem_cons.mpr ⟨lw_p59, List.forall_mem_cons.mpr ⟨lw_p60, List.forall_mem_cons.mpr ⟨lw_p61, List.forall_mem_cons.mpr ⟨lw_p62, List.forall_mem_cons.mpr ⟨lw_p63, fun _ h => absurd h List.not_mem_nil⟩⟩⟩⟩⟩⟩⟩⟩⟩⟩⟩⟩⟩⟩⟩⟩
theorem lw_p64 : lw_okq (⟨"OneBellModel", "readsErrand", "()Z"⟩, 24) := ⟨⟨by decide +kernel, by decide +kernel⟩, List.mem_of_getElem? (i := 878) (by decide +kernel), List.mem_of_getElem? (i := 1224) (by decide +kernel), List.mem_of_getElem? (i := 1225) (by decide +kernel)⟩
theorem lw_p65 : lw_okq (⟨"OneBellModel", "takesPull", "()Z"⟩, 24) := ⟨⟨by decide +kernel, by decide +kernel⟩, List.mem_of_getElem? (i := 878) (by decide +kernel), List.mem_of_getElem? (i := 1228) (by decide +kernel), List.mem_of_getElem? (i := 1229) (by decide +kernel)⟩
theorem lw_p66 : lw_okq (⟨"OneBellModel", "readsRule", "()Z"⟩, 24) := ⟨⟨by decide +kernel, by decide +kernel⟩, List.mem_of_getElem? (i := 878) (by decide +kernel), List.mem_of_getElem? (i := 1232) (by decide +kernel), List.mem_of_getElem? (i := 1233) (by decide +kernel)⟩
theorem lw_p67 : lw_okq (⟨"OneBellModel", "counted", "(I)I"⟩, 24) := ⟨⟨by decide +kernel, by decide +kernel⟩, List.mem_of_getElem? (i := 878) (by decide +kernel), List.mem_of_getElem? (i := 1258) (by decide +kernel), List.mem_of_getElem? (i := 1259) (by decide +kernel)⟩
theorem lw_p68 : lw_okq (⟨"OneBellModel", "sums", "(JII)J"⟩, 24) := ⟨⟨by decide +kernel, by decide +kernel⟩, List.mem_of_getElem? (i := 878) (by decide +kernel), List.mem_of_getElem? (i := 1268) (by decide +kernel), List.mem_of_getElem? (i := 1269) (by decide +kernel)⟩
def lw_privs_5 : List (MethodName × Nat) := [(⟨"OneBellModel", "readsErrand", "()Z"⟩, 24), (⟨"OneBellModel", "takesPull", "()Z"⟩, 24), (⟨"OneBellModel", "readsRule", "()Z"⟩, 24), (⟨"OneBellModel", "counted", "(I)I"⟩, 24), (⟨"OneBellModel", "sums", "(JII)J"⟩, 24)]
theorem lw_r5 : ∀ q ∈ lw_privs_5, lw_okq q := List.forall_mem_cons.mpr ⟨lw_p64, List.forall_mem_cons.mpr ⟨lw_p65, List.forall_mem_cons.mpr ⟨lw_p66, List.forall_mem_cons.mpr ⟨lw_p67, List.forall_mem_cons.mpr ⟨lw_p68, fun _ h => absurd h List.not_mem_nil⟩⟩⟩⟩⟩
def lw_privs : List (MethodName × Nat) := lw_privs_1 ++ (lw_privs_2 ++ (lw_privs_3 ++ (lw_privs_4 ++ (lw_privs_5))))
def lw_tbl : List Cond := k2_sels lw_privs ++ tables_1
theorem lw_privs_ok : ∀ q ∈ lw_privs, lw_okq q := by
  show ∀ q ∈ lw_privs_1 ++ (lw_privs_2 ++ (lw_privs_3 ++ (lw_privs_4 ++ (lw_privs_5)))), lw_okq q
  exact List.forall_mem_append.mpr ⟨lw_r1, List.forall_mem_append.mpr ⟨lw_r2, List.forall_mem_append.mpr ⟨lw_r3, List.forall_mem_append.mpr ⟨lw_r4, lw_r5⟩⟩⟩⟩
end
section

/-! ===== BEGIN printed: names, fields, word lists, decode rows ===== -/
def RX0 : String := "OneBell$Day"
def TX0 : u_T := fun k => match k with
  | 0 => ("OneBell$Day", "swing", "LOneBell$Swing;", true)
  | 1 => ("OneBell$Day", "errands", "I", false)
  | 2 => ("OneBell$Day", "counting", "[I", true)
  | 3 => ("OneBell$Day", "turned", "[I", true)
  | 4 => ("OneBell$Day", "rings", "[I", true)
  | 5 => ("OneBell$Day", "leastHarm", "I", false)
  | 6 => ("OneBell$Day", "bestRow", "[I", true)
  | 7 => ("OneBell$Day", "row", "[I", true)
  | 8 => ("OneBell$Day", "steps", "[I", true)
  | 9 => ("OneBell$Day", "cameFrom", "[I", true)
  | 10 => ("OneBell$Day", "cameBy", "[I", true)
  | 11 => ("OneBell$Day", "waiting", "[I", true)
  | 12 => ("OneBell$Day", "ends", "[I", true)
  | 13 => ("OneBell$Day", "shareAbove", "I", false)
  | 14 => ("OneBell$Day", "shareBelow", "I", false)
  | _ => ("OneBell$Day", "harmOfRopes", "[I", true)
def tyX0 : Nat → FieldType := fun k => match k with
  | 0 => .object "OneBell$Swing"
  | 1 => .int
  | 2 => .array .int
  | 3 => .array .int
  | 4 => .array .int
  | 5 => .int
  | 6 => .array .int
  | 7 => .array .int
  | 8 => .array .int
  | 9 => .array .int
  | 10 => .array .int
  | 11 => .array .int
  | 12 => .array .int
  | 13 => .int
  | 14 => .int
  | _ => .array .int
abbrev wsX00 : List Cond := u_ws RX0 TX0 16
theorem nmX0 : ∀ a, a < 16 → ∀ b, b < 16 → a ≠ b → (TX0 a).2.1 ≠ (TX0 b).2.1 := by decide +kernel
theorem tyX0_ok : ∀ k, k < 16 → parseFieldDescriptor (TX0 k).2.2.1 = some (tyX0 k) := by decide +kernel
abbrev cX0_init : ByteArray := prog_2_method_1_code
def yX0_init : MethodName := ⟨RX0, "<init>", "(LOneBell$Swing;)V"⟩
abbrev cX0_look : ByteArray := prog_2_method_2_code
def yX0_look : MethodName := ⟨RX0, "look", "(LOneBell$Village;I)V"⟩
abbrev cX0_behind : ByteArray := prog_2_method_3_code
def yX0_behind : MethodName := ⟨RX0, "behind", "(II)I"⟩
abbrev cX0_findOrder : ByteArray := prog_2_method_4_code
def yX0_findOrder : MethodName := ⟨RX0, "findOrder", "(LOneBell$Village;)V"⟩
abbrev cX0_findRest : ByteArray := prog_2_method_5_code
def yX0_findRest : MethodName := ⟨RX0, "findRest", "(LOneBell$Village;IIII)V"⟩
abbrev cX0_findCodes : ByteArray := prog_2_method_6_code
def yX0_findCodes : MethodName := ⟨RX0, "findCodes", "(LOneBell$Village;)V"⟩
abbrev cX0_stepTo : ByteArray := prog_2_method_7_code
def yX0_stepTo : MethodName := ⟨RX0, "stepTo", "(II)I"⟩
abbrev cX0_findEnds : ByteArray := prog_2_method_8_code
def yX0_findEnds : MethodName := ⟨RX0, "findEnds", "(LOneBell$Village;)V"⟩
abbrev cX0_howManyEndAt : ByteArray := prog_2_method_9_code
def yX0_howManyEndAt : MethodName := ⟨RX0, "howManyEndAt", "(I)I"⟩
abbrev cX0_leastThatEndsAt : ByteArray := prog_2_method_10_code
def yX0_leastThatEndsAt : MethodName := ⟨RX0, "leastThatEndsAt", "(I)I"⟩
abbrev cX0_thatRing : ByteArray := prog_2_method_11_code
def yX0_thatRing : MethodName := ⟨RX0, "thatRing", "(I)I"⟩
abbrev cX0_fewestCuts : ByteArray := prog_2_method_12_code
def yX0_fewestCuts : MethodName := ⟨RX0, "fewestCuts", "(LOneBell$Village;I)I"⟩
abbrev cX0_anyOpens : ByteArray := prog_2_method_13_code
def yX0_anyOpens : MethodName := ⟨RX0, "anyOpens", "(II)Z"⟩
abbrev cX0_findHarmOfRopes : ByteArray := prog_2_method_14_code
def yX0_findHarmOfRopes : MethodName := ⟨RX0, "findHarmOfRopes", "(LOneBell$Village;)V"⟩
abbrev cX0_weighShare : ByteArray := prog_2_method_15_code
def yX0_weighShare : MethodName := ⟨RX0, "weighShare", "(II)V"⟩
def RX1 : String := "OneBell$Door"
def TX1 : u_T := fun k => match k with
  | _ => ("", "", "", false)
def tyX1 : Nat → FieldType := fun k => match k with
  | _ => .int
abbrev wsX10 : List Cond := u_ws RX1 TX1 0
theorem nmX1 : ∀ a, a < 0 → ∀ b, b < 0 → a ≠ b → (TX1 a).2.1 ≠ (TX1 b).2.1 := by decide +kernel
theorem tyX1_ok : ∀ k, k < 0 → parseFieldDescriptor (TX1 k).2.2.1 = some (tyX1 k) := by decide +kernel
abbrev cX1_init : ByteArray := prog_3_method_1_code
def yX1_init : MethodName := ⟨RX1, "<init>", "()V"⟩
abbrev cX1_becomes : ByteArray := prog_3_method_2_code
def yX1_becomes : MethodName := ⟨RX1, "becomes", "(ZII)Z"⟩
def RX2 : String := "OneBell$Kinds"
def TX2 : u_T := fun k => match k with
  | 0 => ("OneBell$Kinds", "door", "LOneBell$Door;", true)
  | 1 => ("OneBell$Kinds", "latch", "LOneBell$Latch;", true)
  | 2 => ("OneBell$Kinds", "lid", "LOneBell$Lid;", true)
  | 3 => ("OneBell$Kinds", "wheel", "LOneBell$Wheel;", true)
  | _ => ("OneBell$Kinds", "sluice", "LOneBell$Sluice;", true)
def tyX2 : Nat → FieldType := fun k => match k with
  | 0 => .object "OneBell$Door"
  | 1 => .object "OneBell$Latch"
  | 2 => .object "OneBell$Lid"
  | 3 => .object "OneBell$Wheel"
  | _ => .object "OneBell$Sluice"
abbrev wsX20 : List Cond := u_ws RX2 TX2 5
theorem nmX2 : ∀ a, a < 5 → ∀ b, b < 5 → a ≠ b → (TX2 a).2.1 ≠ (TX2 b).2.1 := by decide +kernel
theorem tyX2_ok : ∀ k, k < 5 → parseFieldDescriptor (TX2 k).2.2.1 = some (tyX2 k) := by decide +kernel
abbrev cX2_init : ByteArray := prog_4_method_1_code
def yX2_init : MethodName := ⟨RX2, "<init>", "()V"⟩
abbrev cX2_ofNumber : ByteArray := prog_4_method_2_code
def yX2_ofNumber : MethodName := ⟨RX2, "ofNumber", "(I)LOneBell$Door;"⟩
def RX3 : String := "OneBell$Latch"
def TX3 : u_T := fun k => match k with
  | _ => ("", "", "", false)
def tyX3 : Nat → FieldType := fun k => match k with
  | _ => .int
abbrev wsX30 : List Cond := u_ws RX3 TX3 0
theorem nmX3 : ∀ a, a < 0 → ∀ b, b < 0 → a ≠ b → (TX3 a).2.1 ≠ (TX3 b).2.1 := by decide +kernel
theorem tyX3_ok : ∀ k, k < 0 → parseFieldDescriptor (TX3 k).2.2.1 = some (tyX3 k) := by decide +kernel
abbrev cX3_init : ByteArray := prog_5_method_1_code
def yX3_init : MethodName := ⟨RX3, "<init>", "()V"⟩
abbrev cX3_becomes : ByteArray := prog_5_method_2_code
def yX3_becomes : MethodName := ⟨RX3, "becomes", "(ZII)Z"⟩
def RX4 : String := "OneBell$Lid"
def TX4 : u_T := fun k => match k with
  | _ => ("", "", "", false)
def tyX4 : Nat → FieldType := fun k => match k with
  | _ => .int
abbrev wsX40 : List Cond := u_ws RX4 TX4 0
theorem nmX4 : ∀ a, a < 0 → ∀ b, b < 0 → a ≠ b → (TX4 a).2.1 ≠ (TX4 b).2.1 := by decide +kernel
theorem tyX4_ok : ∀ k, k < 0 → parseFieldDescriptor (TX4 k).2.2.1 = some (tyX4 k) := by decide +kernel
abbrev cX4_init : ByteArray := prog_6_method_1_code
def yX4_init : MethodName := ⟨RX4, "<init>", "()V"⟩
abbrev cX4_becomes : ByteArray := prog_6_method_2_code
def yX4_becomes : MethodName := ⟨RX4, "becomes", "(ZII)Z"⟩
def RX5 : String := "OneBell$Reader"
def TX5 : u_T := fun k => match k with
  | 0 => ("OneBell$Reader", "draft", "LOneBell$Village;", true)
  | 1 => ("OneBell$Reader", "items", "I", false)
  | 2 => ("OneBell$Reader", "start", "I", false)
  | 3 => ("OneBell$Reader", "text", "[I", false)
  | 4 => ("OneBell$Reader", "length", "I", false)
  | 5 => ("OneBell$Reader", "at", "I", false)
  | 6 => ("OneBell$Reader", "token", "I", false)
  | 7 => ("OneBell$Reader", "number", "I", false)
  | _ => ("OneBell$Reader", "numbers", "[I", true)
def tyX5 : Nat → FieldType := fun k => match k with
  | 0 => .object "OneBell$Village"
  | 1 => .int
  | 2 => .int
  | 3 => .array .int
  | 4 => .int
  | 5 => .int
  | 6 => .int
  | 7 => .int
  | _ => .array .int
abbrev wsX50 : List Cond := u_ws RX5 TX5 9
theorem nmX5 : ∀ a, a < 9 → ∀ b, b < 9 → a ≠ b → (TX5 a).2.1 ≠ (TX5 b).2.1 := by decide +kernel
theorem tyX5_ok : ∀ k, k < 9 → parseFieldDescriptor (TX5 k).2.2.1 = some (tyX5 k) := by decide +kernel
abbrev cX5_init : ByteArray := prog_7_method_1_code
def yX5_init : MethodName := ⟨RX5, "<init>", "()V"⟩
abbrev cX5_takes : ByteArray := prog_7_method_2_code
def yX5_takes : MethodName := ⟨RX5, "takes", "([II)Z"⟩
abbrev cX5_takesItem : ByteArray := prog_7_method_3_code
def yX5_takesItem : MethodName := ⟨RX5, "takesItem", "()Z"⟩
abbrev cX5_takesThing : ByteArray := prog_7_method_4_code
def yX5_takesThing : MethodName := ⟨RX5, "takesThing", "()Z"⟩
abbrev cX5_takesCut : ByteArray := prog_7_method_5_code
def yX5_takesCut : MethodName := ⟨RX5, "takesCut", "()Z"⟩
abbrev cX5_takesDamp : ByteArray := prog_7_method_6_code
def yX5_takesDamp : MethodName := ⟨RX5, "takesDamp", "()Z"⟩
abbrev cX5_takesErrand : ByteArray := prog_7_method_7_code
def yX5_takesErrand : MethodName := ⟨RX5, "takesErrand", "()Z"⟩
abbrev cX5_takesRule : ByteArray := prog_7_method_8_code
def yX5_takesRule : MethodName := ⟨RX5, "takesRule", "()Z"⟩
abbrev cX5_takesNumber : ByteArray := prog_7_method_9_code
def yX5_takesNumber : MethodName := ⟨RX5, "takesNumber", "(III)Z"⟩
abbrev cX5_takesEndOfItem : ByteArray := prog_7_method_10_code
def yX5_takesEndOfItem : MethodName := ⟨RX5, "takesEndOfItem", "()Z"⟩
abbrev cX5_nextToken : ByteArray := prog_7_method_11_code
def yX5_nextToken : MethodName := ⟨RX5, "nextToken", "()V"⟩
abbrev cX5_endOfRun : ByteArray := prog_7_method_12_code
def yX5_endOfRun : MethodName := ⟨RX5, "endOfRun", "(ICC)I"⟩
abbrev cX5_takeFigures : ByteArray := prog_7_method_13_code
def yX5_takeFigures : MethodName := ⟨RX5, "takeFigures", "()V"⟩
abbrev cX5_isWord : ByteArray := prog_7_method_14_code
def yX5_isWord : MethodName := ⟨RX5, "isWord", "(Ljava/lang/String;)Z"⟩
def RX6 : String := "OneBell$SlackSearch"
def TX6 : u_T := fun k => match k with
  | 0 => ("OneBell$SlackSearch", "kinds", "LOneBell$Kinds;", true)
  | 1 => ("OneBell$SlackSearch", "things", "I", false)
  | 2 => ("OneBell$SlackSearch", "rules", "I", false)
  | 3 => ("OneBell$SlackSearch", "pulled", "[I", true)
  | 4 => ("OneBell$SlackSearch", "canBe", "[Z", true)
  | 5 => ("OneBell$SlackSearch", "sumsByRule", "[I", true)
  | 6 => ("OneBell$SlackSearch", "sumsByPair", "[I", true)
  | 7 => ("OneBell$SlackSearch", "left", "[I", true)
  | _ => ("OneBell$SlackSearch", "row", "[I", true)
def tyX6 : Nat → FieldType := fun k => match k with
  | 0 => .object "OneBell$Kinds"
  | 1 => .int
  | 2 => .int
  | 3 => .array .int
  | 4 => .array .boolean
  | 5 => .array .int
  | 6 => .array .int
  | 7 => .array .int
  | _ => .array .int
abbrev wsX60 : List Cond := u_ws RX6 TX6 9
theorem nmX6 : ∀ a, a < 9 → ∀ b, b < 9 → a ≠ b → (TX6 a).2.1 ≠ (TX6 b).2.1 := by decide +kernel
theorem tyX6_ok : ∀ k, k < 9 → parseFieldDescriptor (TX6 k).2.2.1 = some (tyX6 k) := by decide +kernel
abbrev cX6_init : ByteArray := prog_8_method_1_code
def yX6_init : MethodName := ⟨RX6, "<init>", "(LOneBell$Kinds;)V"⟩
abbrev cX6_learn : ByteArray := prog_8_method_2_code
def yX6_learn : MethodName := ⟨RX6, "learn", "(LOneBell$Village;)V"⟩
abbrev cX6_sumsFor : ByteArray := prog_8_method_3_code
def yX6_sumsFor : MethodName := ⟨RX6, "sumsFor", "(LOneBell$Village;II)I"⟩
abbrev cX6_isSo : ByteArray := prog_8_method_4_code
def yX6_isSo : MethodName := ⟨RX6, "isSo", "(LOneBell$Village;III)Z"⟩
abbrev cX6_fewestGivenUp : ByteArray := prog_8_method_5_code
def yX6_fewestGivenUp : MethodName := ⟨RX6, "fewestGivenUp", "()I"⟩
abbrev cX6_fitsWithout : ByteArray := prog_8_method_6_code
def yX6_fitsWithout : MethodName := ⟨RX6, "fitsWithout", "(I)Z"⟩
abbrev cX6_narrowPairs : ByteArray := prog_8_method_7_code
def yX6_narrowPairs : MethodName := ⟨RX6, "narrowPairs", "(I)V"⟩
abbrev cX6_strikesOut : ByteArray := prog_8_method_8_code
def yX6_strikesOut : MethodName := ⟨RX6, "strikesOut", "()Z"⟩
abbrev cX6_fittedBySome : ByteArray := prog_8_method_9_code
def yX6_fittedBySome : MethodName := ⟨RX6, "fittedBySome", "(I)I"⟩
abbrev cX6_fitsFrom : ByteArray := prog_8_method_10_code
def yX6_fitsFrom : MethodName := ⟨RX6, "fitsFrom", "(I)Z"⟩
abbrev cX6_leavesSome : ByteArray := prog_8_method_11_code
def yX6_leavesSome : MethodName := ⟨RX6, "leavesSome", "(II)Z"⟩
def RX7 : String := "OneBell$Sluice"
def TX7 : u_T := fun k => match k with
  | _ => ("", "", "", false)
def tyX7 : Nat → FieldType := fun k => match k with
  | _ => .int
abbrev wsX70 : List Cond := u_ws RX7 TX7 0
theorem nmX7 : ∀ a, a < 0 → ∀ b, b < 0 → a ≠ b → (TX7 a).2.1 ≠ (TX7 b).2.1 := by decide +kernel
theorem tyX7_ok : ∀ k, k < 0 → parseFieldDescriptor (TX7 k).2.2.1 = some (tyX7 k) := by decide +kernel
abbrev cX7_init : ByteArray := prog_9_method_1_code
def yX7_init : MethodName := ⟨RX7, "<init>", "()V"⟩
abbrev cX7_becomes : ByteArray := prog_9_method_2_code
def yX7_becomes : MethodName := ⟨RX7, "becomes", "(ZII)Z"⟩
def RX8 : String := "OneBell$Swing"
def TX8 : u_T := fun k => match k with
  | 0 => ("OneBell$Swing", "kinds", "LOneBell$Kinds;", true)
  | 1 => ("OneBell$Swing", "first", "I", false)
  | 2 => ("OneBell$Swing", "firstInches", "I", false)
  | 3 => ("OneBell$Swing", "second", "I", false)
  | 4 => ("OneBell$Swing", "secondInches", "I", false)
  | 5 => ("OneBell$Swing", "travel", "I", false)
  | 6 => ("OneBell$Swing", "counting", "I", false)
  | _ => ("OneBell$Swing", "turned", "I", false)
def tyX8 : Nat → FieldType := fun k => match k with
  | 0 => .object "OneBell$Kinds"
  | 1 => .int
  | 2 => .int
  | 3 => .int
  | 4 => .int
  | 5 => .int
  | 6 => .int
  | _ => .int
abbrev wsX80 : List Cond := u_ws RX8 TX8 8
theorem nmX8 : ∀ a, a < 8 → ∀ b, b < 8 → a ≠ b → (TX8 a).2.1 ≠ (TX8 b).2.1 := by decide +kernel
theorem tyX8_ok : ∀ k, k < 8 → parseFieldDescriptor (TX8 k).2.2.1 = some (tyX8 k) := by decide +kernel
abbrev cX8_init : ByteArray := prog_10_method_1_code
def yX8_init : MethodName := ⟨RX8, "<init>", "(LOneBell$Kinds;)V"⟩
abbrev cX8_by : ByteArray := prog_10_method_2_code
def yX8_by : MethodName := ⟨RX8, "by", "(LOneBell$Village;IIIII)V"⟩
abbrev cX8_rings : ByteArray := prog_10_method_3_code
def yX8_rings : MethodName := ⟨RX8, "rings", "()I"⟩
abbrev cX8_behind : ByteArray := prog_10_method_4_code
def yX8_behind : MethodName := ⟨RX8, "behind", "(I)I"⟩
abbrev cX8_moveOf : ByteArray := prog_10_method_5_code
def yX8_moveOf : MethodName := ⟨RX8, "moveOf", "(LOneBell$Village;II)I"⟩
abbrev cX8_travelBy : ByteArray := prog_10_method_6_code
def yX8_travelBy : MethodName := ⟨RX8, "travelBy", "(LOneBell$Village;III)I"⟩
def RX9 : String := "OneBell$Village"
def TX9 : u_T := fun k => match k with
  | 0 => ("OneBell$Village", "things", "I", false)
  | 1 => ("OneBell$Village", "kind", "[I", true)
  | 2 => ("OneBell$Village", "slack", "[I", true)
  | 3 => ("OneBell$Village", "stop", "[I", true)
  | 4 => ("OneBell$Village", "harm", "[I", true)
  | 5 => ("OneBell$Village", "whole", "I", false)
  | 6 => ("OneBell$Village", "damp", "I", false)
  | 7 => ("OneBell$Village", "open", "I", false)
  | 8 => ("OneBell$Village", "errands", "I", false)
  | 9 => ("OneBell$Village", "errandThing", "[I", true)
  | 10 => ("OneBell$Village", "errandInches", "[I", true)
  | 11 => ("OneBell$Village", "rules", "I", false)
  | 12 => ("OneBell$Village", "ruleThing", "[I", true)
  | 13 => ("OneBell$Village", "ruleInches", "[I", true)
  | 14 => ("OneBell$Village", "ruleSet", "[I", true)
  | 15 => ("OneBell$Village", "pasts", "I", false)
  | _ => ("OneBell$Village", "past", "[I", true)
def tyX9 : Nat → FieldType := fun k => match k with
  | 0 => .int
  | 1 => .array .int
  | 2 => .array .int
  | 3 => .array .int
  | 4 => .array .int
  | 5 => .int
  | 6 => .int
  | 7 => .int
  | 8 => .int
  | 9 => .array .int
  | 10 => .array .int
  | 11 => .int
  | 12 => .array .int
  | 13 => .array .int
  | 14 => .array .int
  | 15 => .int
  | _ => .array .int
abbrev wsX90 : List Cond := u_ws RX9 TX9 17
theorem nmX9 : ∀ a, a < 17 → ∀ b, b < 17 → a ≠ b → (TX9 a).2.1 ≠ (TX9 b).2.1 := by decide +kernel
theorem tyX9_ok : ∀ k, k < 17 → parseFieldDescriptor (TX9 k).2.2.1 = some (tyX9 k) := by decide +kernel
abbrev cX9_init : ByteArray := prog_11_method_1_code
def yX9_init : MethodName := ⟨RX9, "<init>", "()V"⟩
abbrev cX9_becomeEmpty : ByteArray := prog_11_method_2_code
def yX9_becomeEmpty : MethodName := ⟨RX9, "becomeEmpty", "()V"⟩
abbrev cX9_becomeLike : ByteArray := prog_11_method_3_code
def yX9_becomeLike : MethodName := ⟨RX9, "becomeLike", "(LOneBell$Village;)V"⟩
abbrev cX9_hasThing : ByteArray := prog_11_method_4_code
def yX9_hasThing : MethodName := ⟨RX9, "hasThing", "(I)Z"⟩
abbrev cX9_hasSet : ByteArray := prog_11_method_5_code
def yX9_hasSet : MethodName := ⟨RX9, "hasSet", "(I)Z"⟩
abbrev cX9_addThing : ByteArray := prog_11_method_6_code
def yX9_addThing : MethodName := ⟨RX9, "addThing", "(IIII)V"⟩
abbrev cX9_addErrand : ByteArray := prog_11_method_7_code
def yX9_addErrand : MethodName := ⟨RX9, "addErrand", "(II)V"⟩
abbrev cX9_addRule : ByteArray := prog_11_method_8_code
def yX9_addRule : MethodName := ⟨RX9, "addRule", "(III)V"⟩
abbrev cX9_slackInDamp : ByteArray := prog_11_method_9_code
def yX9_slackInDamp : MethodName := ⟨RX9, "slackInDamp", "(I)I"⟩
abbrev cX9_harmOf : ByteArray := prog_11_method_10_code
def yX9_harmOf : MethodName := ⟨RX9, "harmOf", "(I)I"⟩
abbrev cX9_remember : ByteArray := prog_11_method_11_code
def yX9_remember : MethodName := ⟨RX9, "remember", "()V"⟩
abbrev cX9_goBack : ByteArray := prog_11_method_12_code
def yX9_goBack : MethodName := ⟨RX9, "goBack", "()V"⟩
abbrev cX9_mixInto : ByteArray := prog_11_method_13_code
def yX9_mixInto : MethodName := ⟨RX9, "mixInto", "(J)J"⟩
def RX10 : String := "OneBell$Wheel"
def TX10 : u_T := fun k => match k with
  | _ => ("", "", "", false)
def tyX10 : Nat → FieldType := fun k => match k with
  | _ => .int
abbrev wsX100 : List Cond := u_ws RX10 TX10 0
theorem nmX10 : ∀ a, a < 0 → ∀ b, b < 0 → a ≠ b → (TX10 a).2.1 ≠ (TX10 b).2.1 := by decide +kernel
theorem tyX10_ok : ∀ k, k < 0 → parseFieldDescriptor (TX10 k).2.2.1 = some (tyX10 k) := by decide +kernel
abbrev cX10_init : ByteArray := prog_12_method_1_code
def yX10_init : MethodName := ⟨RX10, "<init>", "()V"⟩
abbrev cX10_becomes : ByteArray := prog_12_method_2_code
def yX10_becomes : MethodName := ⟨RX10, "becomes", "(ZII)Z"⟩
def RX11 : String := "OneBell"
def TX11 : u_T := fun k => match k with
  | 0 => ("OneBell", "now", "LOneBell$Village;", true)
  | 1 => ("OneBell", "images", "[LOneBell$Village;", true)
  | 2 => ("OneBell", "text", "[I", true)
  | 3 => ("OneBell", "length", "I", false)
  | 4 => ("OneBell", "above", "J", false)
  | 5 => ("OneBell", "below", "J", false)
  | 6 => ("OneBell", "bads", "I", false)
  | 7 => ("OneBell", "nos", "I", false)
  | 8 => ("OneBell", "fulls", "I", false)
  | 9 => ("OneBell", "swing", "LOneBell$Swing;", true)
  | 10 => ("OneBell", "day", "LOneBell$Day;", true)
  | 11 => ("OneBell", "search", "LOneBell$SlackSearch;", true)
  | _ => ("OneBell", "reader", "LOneBell$Reader;", true)
def tyX11 : Nat → FieldType := fun k => match k with
  | 0 => .object "OneBell$Village"
  | 1 => .array (.object "OneBell$Village")
  | 2 => .array .int
  | 3 => .int
  | 4 => .long
  | 5 => .long
  | 6 => .int
  | 7 => .int
  | 8 => .int
  | 9 => .object "OneBell$Swing"
  | 10 => .object "OneBell$Day"
  | 11 => .object "OneBell$SlackSearch"
  | _ => .object "OneBell$Reader"
abbrev wsX110 : List Cond := u_ws RX11 TX11 13
theorem nmX11 : ∀ a, a < 13 → ∀ b, b < 13 → a ≠ b → (TX11 a).2.1 ≠ (TX11 b).2.1 := by decide +kernel
theorem tyX11_ok : ∀ k, k < 13 → parseFieldDescriptor (TX11 k).2.2.1 = some (tyX11 k) := by decide +kernel
abbrev cX11_init : ByteArray := prog_1_method_1_code
def yX11_init : MethodName := ⟨RX11, "<init>", "()V"⟩
abbrev cX11_thing : ByteArray := prog_1_method_2_code
def yX11_thing : MethodName := ⟨RX11, "thing", "(IIII)I"⟩
abbrev cX11_rope : ByteArray := prog_1_method_3_code
def yX11_rope : MethodName := ⟨RX11, "rope", "(IZ)I"⟩
abbrev cX11_damp : ByteArray := prog_1_method_4_code
def yX11_damp : MethodName := ⟨RX11, "damp", "(I)I"⟩
abbrev cX11_type : ByteArray := prog_1_method_5_code
def yX11_type : MethodName := ⟨RX11, "type", "(JI)I"⟩
abbrev cX11_clear : ByteArray := prog_1_method_6_code
def yX11_clear : MethodName := ⟨RX11, "clear", "()I"⟩
abbrev cX11_read : ByteArray := prog_1_method_7_code
def yX11_read : MethodName := ⟨RX11, "read", "()I"⟩
abbrev cX11_pull : ByteArray := prog_1_method_8_code
def yX11_pull : MethodName := ⟨RX11, "pull", "(II)I"⟩
abbrev cX11_both : ByteArray := prog_1_method_9_code
def yX11_both : MethodName := ⟨RX11, "both", "(IIII)I"⟩
abbrev cX11_would : ByteArray := prog_1_method_10_code
def yX11_would : MethodName := ⟨RX11, "would", "(II)I"⟩
abbrev cX11_open : ByteArray := prog_1_method_11_code
def yX11_open : MethodName := ⟨RX11, "open", "()I"⟩
abbrev cX11_moves : ByteArray := prog_1_method_12_code
def yX11_moves : MethodName := ⟨RX11, "moves", "(III)I"⟩
abbrev cX11_undo : ByteArray := prog_1_method_13_code
def yX11_undo : MethodName := ⟨RX11, "undo", "()I"⟩
abbrev cX11_errand : ByteArray := prog_1_method_14_code
def yX11_errand : MethodName := ⟨RX11, "errand", "(II)I"⟩
abbrev cX11_drop : ByteArray := prog_1_method_15_code
def yX11_drop : MethodName := ⟨RX11, "drop", "()I"⟩
abbrev cX11_order : ByteArray := prog_1_method_16_code
def yX11_order : MethodName := ⟨RX11, "order", "(I)I"⟩
abbrev cX11_code : ByteArray := prog_1_method_17_code
def yX11_code : MethodName := ⟨RX11, "code", "(II)I"⟩
abbrev cX11_who : ByteArray := prog_1_method_18_code
def yX11_who : MethodName := ⟨RX11, "who", "(II)I"⟩
abbrev cX11_heard : ByteArray := prog_1_method_19_code
def yX11_heard : MethodName := ⟨RX11, "heard", "(I)I"⟩
abbrev cX11_cuts : ByteArray := prog_1_method_20_code
def yX11_cuts : MethodName := ⟨RX11, "cuts", "(I)I"⟩
abbrev cX11_rule : ByteArray := prog_1_method_21_code
def yX11_rule : MethodName := ⟨RX11, "rule", "(III)I"⟩
abbrev cX11_free : ByteArray := prog_1_method_22_code
def yX11_free : MethodName := ⟨RX11, "free", "()I"⟩
abbrev cX11_slack : ByteArray := prog_1_method_23_code
def yX11_slack : MethodName := ⟨RX11, "slack", "(I)I"⟩
abbrev cX11_giveUp : ByteArray := prog_1_method_24_code
def yX11_giveUp : MethodName := ⟨RX11, "giveUp", "()I"⟩
abbrev cX11_share : ByteArray := prog_1_method_25_code
def yX11_share : MethodName := ⟨RX11, "share", "(I)I"⟩
abbrev cX11_part : ByteArray := prog_1_method_26_code
def yX11_part : MethodName := ⟨RX11, "part", "(I)J"⟩
abbrev cX11_image : ByteArray := prog_1_method_27_code
def yX11_image : MethodName := ⟨RX11, "image", "(I)I"⟩
abbrev cX11_from : ByteArray := prog_1_method_28_code
def yX11_from : MethodName := ⟨RX11, "from", "(I)I"⟩
abbrev cX11_status : ByteArray := prog_1_method_29_code
def yX11_status : MethodName := ⟨RX11, "status", "(I)I"⟩
abbrev cX11_count : ByteArray := prog_1_method_30_code
def yX11_count : MethodName := ⟨RX11, "count", "(I)I"⟩
abbrev cX11_digest : ByteArray := prog_1_method_31_code
def yX11_digest : MethodName := ⟨RX11, "digest", "()J"⟩
abbrev cX11_within : ByteArray := prog_1_method_32_code
def yX11_within : MethodName := ⟨RX11, "within", "(III)Z"⟩
abbrev cX11_has : ByteArray := prog_1_method_33_code
def yX11_has : MethodName := ⟨RX11, "has", "(II)Z"⟩
abbrev cX11_isPull : ByteArray := prog_1_method_34_code
def yX11_isPull : MethodName := ⟨RX11, "isPull", "(II)Z"⟩
abbrev cX11_bad : ByteArray := prog_1_method_35_code
def yX11_bad : MethodName := ⟨RX11, "bad", "(I)I"⟩
abbrev cX11_refusedNow : ByteArray := prog_1_method_36_code
def yX11_refusedNow : MethodName := ⟨RX11, "refusedNow", "()I"⟩
abbrev cX11_tooMany : ByteArray := prog_1_method_37_code
def yX11_tooMany : MethodName := ⟨RX11, "tooMany", "()I"⟩
abbrev cX11_doSwing : ByteArray := prog_1_method_38_code
def yX11_doSwing : MethodName := ⟨RX11, "doSwing", "()I"⟩
abbrev cX11_howMany : ByteArray := prog_1_method_39_code
def yX11_howMany : MethodName := ⟨RX11, "howMany", "(I)I"⟩
abbrev cX11_keepFraction : ByteArray := prog_1_method_40_code
def yX11_keepFraction : MethodName := ⟨RX11, "keepFraction", "(II)V"⟩
def RX12 : String := "OneBellModel"
def TX12 : u_T := fun k => match k with
  | 0 => ("OneBellModel", "now", "[I", true)
  | 1 => ("OneBellModel", "kept", "[I", true)
  | 2 => ("OneBellModel", "isKept", "[Z", true)
  | 3 => ("OneBellModel", "refused", "[I", true)
  | 4 => ("OneBellModel", "above", "J", false)
  | 5 => ("OneBellModel", "below", "J", false)
  | 6 => ("OneBellModel", "slacks", "[I", true)
  | 7 => ("OneBellModel", "whole", "I", false)
  | 8 => ("OneBellModel", "first", "I", false)
  | 9 => ("OneBellModel", "firstBy", "I", false)
  | 10 => ("OneBellModel", "second", "I", false)
  | 11 => ("OneBellModel", "secondBy", "I", false)
  | 12 => ("OneBellModel", "row", "[I", true)
  | 13 => ("OneBellModel", "bestRow", "[I", true)
  | 14 => ("OneBellModel", "least", "I", false)
  | 15 => ("OneBellModel", "far", "[I", true)
  | 16 => ("OneBellModel", "bytes", "[I", true)
  | 17 => ("OneBellModel", "bytesLong", "I", false)
  | 18 => ("OneBellModel", "tokenAt", "I", false)
  | 19 => ("OneBellModel", "tokenLong", "I", false)
  | 20 => ("OneBellModel", "token", "I", false)
  | 21 => ("OneBellModel", "value", "I", false)
  | 22 => ("OneBellModel", "next", "[I", true)
  | _ => ("OneBellModel", "values", "[I", true)
def tyX12 : Nat → FieldType := fun k => match k with
  | 0 => .array .int
  | 1 => .array .int
  | 2 => .array .boolean
  | 3 => .array .int
  | 4 => .long
  | 5 => .long
  | 6 => .array .int
  | 7 => .int
  | 8 => .int
  | 9 => .int
  | 10 => .int
  | 11 => .int
  | 12 => .array .int
  | 13 => .array .int
  | 14 => .int
  | 15 => .array .int
  | 16 => .array .int
  | 17 => .int
  | 18 => .int
  | 19 => .int
  | 20 => .int
  | 21 => .int
  | 22 => .array .int
  | _ => .array .int
abbrev wsX120 : List Cond := u_ws RX12 TX12 24
theorem nmX12 : ∀ a, a < 24 → ∀ b, b < 24 → a ≠ b → (TX12 a).2.1 ≠ (TX12 b).2.1 := by decide +kernel
theorem tyX12_ok : ∀ k, k < 24 → parseFieldDescriptor (TX12 k).2.2.1 = some (tyX12 k) := by decide +kernel
abbrev cX12_init : ByteArray := prog_14_method_1_code
def yX12_init : MethodName := ⟨RX12, "<init>", "()V"⟩
abbrev cX12_in : ByteArray := prog_14_method_3_code
def yX12_in : MethodName := ⟨RX12, "in", "(JJJ)Z"⟩
abbrev cX12_bad : ByteArray := prog_14_method_4_code
def yX12_bad : MethodName := ⟨RX12, "bad", "(I)I"⟩
abbrev cX12_no : ByteArray := prog_14_method_5_code
def yX12_no : MethodName := ⟨RX12, "no", "(I)I"⟩
abbrev cX12_full : ByteArray := prog_14_method_6_code
def yX12_full : MethodName := ⟨RX12, "full", "()I"⟩
abbrev cX12_bits : ByteArray := prog_14_method_7_code
def yX12_bits : MethodName := ⟨RX12, "bits", "(I)I"⟩
abbrev cX12_things : ByteArray := prog_14_method_8_code
def yX12_things : MethodName := ⟨RX12, "things", "()I"⟩
abbrev cX12_isThing : ByteArray := prog_14_method_9_code
def yX12_isThing : MethodName := ⟨RX12, "isThing", "(I)Z"⟩
abbrev cX12_all : ByteArray := prog_14_method_10_code
def yX12_all : MethodName := ⟨RX12, "all", "()I"⟩
abbrev cX12_of : ByteArray := prog_14_method_11_code
def yX12_of : MethodName := ⟨RX12, "of", "(II)I"⟩
abbrev cX12_layThing : ByteArray := prog_14_method_12_code
def yX12_layThing : MethodName := ⟨RX12, "layThing", "([IIIII)V"⟩
abbrev cX12_thing : ByteArray := prog_14_method_13_code
def yX12_thing : MethodName := ⟨RX12, "thing", "(IIII)I"⟩
abbrev cX12_rope : ByteArray := prog_14_method_14_code
def yX12_rope : MethodName := ⟨RX12, "rope", "(IZ)I"⟩
abbrev cX12_damp : ByteArray := prog_14_method_15_code
def yX12_damp : MethodName := ⟨RX12, "damp", "(I)I"⟩
abbrev cX12_wholeNow : ByteArray := prog_14_method_16_code
def yX12_wholeNow : MethodName := ⟨RX12, "wholeNow", "()I"⟩
abbrev cX12_takeSlacks : ByteArray := prog_14_method_17_code
def yX12_takeSlacks : MethodName := ⟨RX12, "takeSlacks", "(I)V"⟩
abbrev cX12_takeNow : ByteArray := prog_14_method_18_code
def yX12_takeNow : MethodName := ⟨RX12, "takeNow", "()V"⟩
abbrev cX12_onePull : ByteArray := prog_14_method_19_code
def yX12_onePull : MethodName := ⟨RX12, "onePull", "(II)V"⟩
abbrev cX12_travelOf : ByteArray := prog_14_method_20_code
def yX12_travelOf : MethodName := ⟨RX12, "travelOf", "(II)I"⟩
abbrev cX12_travel : ByteArray := prog_14_method_21_code
def yX12_travel : MethodName := ⟨RX12, "travel", "()I"⟩
abbrev cX12_moveOf : ByteArray := prog_14_method_22_code
def yX12_moveOf : MethodName := ⟨RX12, "moveOf", "(I)I"⟩
abbrev cX12_behind : ByteArray := prog_14_method_23_code
def yX12_behind : MethodName := ⟨RX12, "behind", "(I)I"⟩
abbrev cX12_harmOf : ByteArray := prog_14_method_24_code
def yX12_harmOf : MethodName := ⟨RX12, "harmOf", "(I)I"⟩
abbrev cX12_goPull : ByteArray := prog_14_method_25_code
def yX12_goPull : MethodName := ⟨RX12, "goPull", "()I"⟩
abbrev cX12_isPull : ByteArray := prog_14_method_26_code
def yX12_isPull : MethodName := ⟨RX12, "isPull", "(II)Z"⟩
abbrev cX12_pull : ByteArray := prog_14_method_27_code
def yX12_pull : MethodName := ⟨RX12, "pull", "(II)I"⟩
abbrev cX12_both : ByteArray := prog_14_method_28_code
def yX12_both : MethodName := ⟨RX12, "both", "(IIII)I"⟩
abbrev cX12_would : ByteArray := prog_14_method_29_code
def yX12_would : MethodName := ⟨RX12, "would", "(II)I"⟩
abbrev cX12_open : ByteArray := prog_14_method_30_code
def yX12_open : MethodName := ⟨RX12, "open", "()I"⟩
abbrev cX12_moves : ByteArray := prog_14_method_31_code
def yX12_moves : MethodName := ⟨RX12, "moves", "(III)I"⟩
abbrev cX12_undo : ByteArray := prog_14_method_32_code
def yX12_undo : MethodName := ⟨RX12, "undo", "()I"⟩
abbrev cX12_errands : ByteArray := prog_14_method_33_code
def yX12_errands : MethodName := ⟨RX12, "errands", "()I"⟩
abbrev cX12_errand : ByteArray := prog_14_method_34_code
def yX12_errand : MethodName := ⟨RX12, "errand", "(II)I"⟩
abbrev cX12_drop : ByteArray := prog_14_method_35_code
def yX12_drop : MethodName := ⟨RX12, "drop", "()I"⟩
abbrev cX12_doErrand : ByteArray := prog_14_method_36_code
def yX12_doErrand : MethodName := ⟨RX12, "doErrand", "(II)I"⟩
abbrev cX12_layOrder : ByteArray := prog_14_method_37_code
def yX12_layOrder : MethodName := ⟨RX12, "layOrder", "(I)Z"⟩
abbrev cX12_harmOfRow : ByteArray := prog_14_method_38_code
def yX12_harmOfRow : MethodName := ⟨RX12, "harmOfRow", "()I"⟩
abbrev cX12_order : ByteArray := prog_14_method_39_code
def yX12_order : MethodName := ⟨RX12, "order", "(I)I"⟩
abbrev cX12_findFar : ByteArray := prog_14_method_40_code
def yX12_findFar : MethodName := ⟨RX12, "findFar", "(I)V"⟩
abbrev cX12_isSet : ByteArray := prog_14_method_41_code
def yX12_isSet : MethodName := ⟨RX12, "isSet", "(I)Z"⟩
abbrev cX12_code : ByteArray := prog_14_method_42_code
def yX12_code : MethodName := ⟨RX12, "code", "(II)I"⟩
abbrev cX12_who : ByteArray := prog_14_method_43_code
def yX12_who : MethodName := ⟨RX12, "who", "(II)I"⟩
abbrev cX12_heard : ByteArray := prog_14_method_44_code
def yX12_heard : MethodName := ⟨RX12, "heard", "(I)I"⟩
abbrev cX12_cuts : ByteArray := prog_14_method_45_code
def yX12_cuts : MethodName := ⟨RX12, "cuts", "(I)I"⟩
abbrev cX12_rules : ByteArray := prog_14_method_46_code
def yX12_rules : MethodName := ⟨RX12, "rules", "()I"⟩
abbrev cX12_rule : ByteArray := prog_14_method_47_code
def yX12_rule : MethodName := ⟨RX12, "rule", "(III)I"⟩
abbrev cX12_layRule : ByteArray := prog_14_method_48_code
def yX12_layRule : MethodName := ⟨RX12, "layRule", "([IIII)V"⟩
abbrev cX12_free : ByteArray := prog_14_method_49_code
def yX12_free : MethodName := ⟨RX12, "free", "()I"⟩
abbrev cX12_isSo : ByteArray := prog_14_method_50_code
def yX12_isSo : MethodName := ⟨RX12, "isSo", "(I)Z"⟩
abbrev cX12_findSlacks : ByteArray := prog_14_method_51_code
def yX12_findSlacks : MethodName := ⟨RX12, "findSlacks", "(I)Z"⟩
abbrev cX12_slack : ByteArray := prog_14_method_52_code
def yX12_slack : MethodName := ⟨RX12, "slack", "(I)I"⟩
abbrev cX12_giveUp : ByteArray := prog_14_method_53_code
def yX12_giveUp : MethodName := ⟨RX12, "giveUp", "()I"⟩
abbrev cX12_harmBy : ByteArray := prog_14_method_54_code
def yX12_harmBy : MethodName := ⟨RX12, "harmBy", "(I)I"⟩
abbrev cX12_factorial : ByteArray := prog_14_method_55_code
def yX12_factorial : MethodName := ⟨RX12, "factorial", "(I)I"⟩
abbrev cX12_share : ByteArray := prog_14_method_56_code
def yX12_share : MethodName := ⟨RX12, "share", "(I)I"⟩
abbrev cX12_type : ByteArray := prog_14_method_57_code
def yX12_type : MethodName := ⟨RX12, "type", "(JI)I"⟩
abbrev cX12_clear : ByteArray := prog_14_method_58_code
def yX12_clear : MethodName := ⟨RX12, "clear", "()I"⟩
abbrev cX12_isSmall : ByteArray := prog_14_method_59_code
def yX12_isSmall : MethodName := ⟨RX12, "isSmall", "(I)Z"⟩
abbrev cX12_isFigure : ByteArray := prog_14_method_60_code
def yX12_isFigure : MethodName := ⟨RX12, "isFigure", "(I)Z"⟩
abbrev cX12_look : ByteArray := prog_14_method_61_code
def yX12_look : MethodName := ⟨RX12, "look", "(I)V"⟩
abbrev cX12_goOn : ByteArray := prog_14_method_62_code
def yX12_goOn : MethodName := ⟨RX12, "goOn", "()V"⟩
abbrev cX12_isWord : ByteArray := prog_14_method_63_code
def yX12_isWord : MethodName := ⟨RX12, "isWord", "(IIIIII)Z"⟩
abbrev cX12_takes : ByteArray := prog_14_method_64_code
def yX12_takes : MethodName := ⟨RX12, "takes", "(III)Z"⟩
abbrev cX12_readsThing : ByteArray := prog_14_method_65_code
def yX12_readsThing : MethodName := ⟨RX12, "readsThing", "()Z"⟩
abbrev cX12_readsCut : ByteArray := prog_14_method_66_code
def yX12_readsCut : MethodName := ⟨RX12, "readsCut", "()Z"⟩
abbrev cX12_takesPull : ByteArray := prog_14_method_67_code
def yX12_takesPull : MethodName := ⟨RX12, "takesPull", "()Z"⟩
abbrev cX12_readsErrand : ByteArray := prog_14_method_68_code
def yX12_readsErrand : MethodName := ⟨RX12, "readsErrand", "()Z"⟩
abbrev cX12_readsRule : ByteArray := prog_14_method_69_code
def yX12_readsRule : MethodName := ⟨RX12, "readsRule", "()Z"⟩
abbrev cX12_readsItem : ByteArray := prog_14_method_70_code
def yX12_readsItem : MethodName := ⟨RX12, "readsItem", "()Z"⟩
abbrev cX12_read : ByteArray := prog_14_method_71_code
def yX12_read : MethodName := ⟨RX12, "read", "()I"⟩
abbrev cX12_part : ByteArray := prog_14_method_72_code
def yX12_part : MethodName := ⟨RX12, "part", "(I)J"⟩
abbrev cX12_image : ByteArray := prog_14_method_73_code
def yX12_image : MethodName := ⟨RX12, "image", "(I)I"⟩
abbrev cX12_from : ByteArray := prog_14_method_74_code
def yX12_from : MethodName := ⟨RX12, "from", "(I)I"⟩
abbrev cX12_status : ByteArray := prog_14_method_75_code
def yX12_status : MethodName := ⟨RX12, "status", "(I)I"⟩
abbrev cX12_counted : ByteArray := prog_14_method_76_code
def yX12_counted : MethodName := ⟨RX12, "counted", "(I)I"⟩
abbrev cX12_count : ByteArray := prog_14_method_77_code
def yX12_count : MethodName := ⟨RX12, "count", "(I)I"⟩
abbrev cX12_sums : ByteArray := prog_14_method_78_code
def yX12_sums : MethodName := ⟨RX12, "sums", "(JII)J"⟩
abbrev cX12_digest : ByteArray := prog_14_method_79_code
def yX12_digest : MethodName := ⟨RX12, "digest", "()J"⟩
def RJ6 : String := "java/lang/Integer"
def TJ6 : u_T := fun k => match k with
  | _ => ("", "", "", false)
def tyJ6 : Nat → FieldType := fun k => match k with
  | _ => .int
abbrev wsJ60 : List Cond := u_ws RJ6 TJ6 0
theorem nmJ6 : ∀ a, a < 0 → ∀ b, b < 0 → a ≠ b → (TJ6 a).2.1 ≠ (TJ6 b).2.1 := by decide +kernel
theorem tyJ6_ok : ∀ k, k < 0 → parseFieldDescriptor (TJ6 k).2.2.1 = some (tyJ6 k) := by decide +kernel
abbrev cJ6_bitCount_0f7a4 : ByteArray := prog_15_method_49_code
def yJ6_bitCount_0f7a4 : MethodName := ⟨RJ6, "bitCount", "(I)I"⟩
def RJ9 : String := "java/lang/Math"
def TJ9 : u_T := fun k => match k with
  | _ => ("", "", "", false)
def tyJ9 : Nat → FieldType := fun k => match k with
  | _ => .int
abbrev wsJ90 : List Cond := u_ws RJ9 TJ9 0
theorem nmJ9 : ∀ a, a < 0 → ∀ b, b < 0 → a ≠ b → (TJ9 a).2.1 ≠ (TJ9 b).2.1 := by decide +kernel
theorem tyJ9_ok : ∀ k, k < 0 → parseFieldDescriptor (TJ9 k).2.2.1 = some (tyJ9 k) := by decide +kernel
abbrev cJ9_abs_0f7a4 : ByteArray := prog_16_method_59_code
def yJ9_abs_0f7a4 : MethodName := ⟨RJ9, "abs", "(I)I"⟩
abbrev cJ9_max_7cf53 : ByteArray := prog_16_method_65_code
def yJ9_max_7cf53 : MethodName := ⟨RJ9, "max", "(II)I"⟩
abbrev cJ9_min_7cf53 : ByteArray := prog_16_method_69_code
def yJ9_min_7cf53 : MethodName := ⟨RJ9, "min", "(II)I"⟩
def RJ0 : String := "java/lang/String"
def TJ0 : u_T := fun k => match k with
  | _ => ("", "", "", false)
def tyJ0 : Nat → FieldType := fun k => match k with
  | _ => .int
abbrev wsJ00 : List Cond := u_ws RJ0 TJ0 0
theorem nmJ0 : ∀ a, a < 0 → ∀ b, b < 0 → a ≠ b → (TJ0 a).2.1 ≠ (TJ0 b).2.1 := by decide +kernel
theorem tyJ0_ok : ∀ k, k < 0 → parseFieldDescriptor (TJ0 k).2.2.1 = some (tyJ0 k) := by decide +kernel
abbrev cJ0_length_8abf5 : ByteArray := prog_17_method_54_code
def yJ0_length_8abf5 : MethodName := ⟨RJ0, "length", "()I"⟩
abbrev cJ0_charAt_5068e : ByteArray := prog_17_method_56_code
def yJ0_charAt_5068e : MethodName := ⟨RJ0, "charAt", "(I)C"⟩
abbrev cJ0_coder_7d493 : ByteArray := prog_17_method_152_code
def yJ0_coder_7d493 : MethodName := ⟨RJ0, "coder", "()B"⟩
abbrev cJ0_isLatin1_aae02 : ByteArray := prog_17_method_154_code
def yJ0_isLatin1_aae02 : MethodName := ⟨RJ0, "isLatin1", "()Z"⟩
abbrev cJ0_checkIndex_df160 : ByteArray := prog_17_method_155_code
def yJ0_checkIndex_df160 : MethodName := ⟨RJ0, "checkIndex", "(II)V"⟩
def RJ1 : String := "java/lang/StringLatin1"
def TJ1 : u_T := fun k => match k with
  | _ => ("", "", "", false)
def tyJ1 : Nat → FieldType := fun k => match k with
  | _ => .int
abbrev wsJ10 : List Cond := u_ws RJ1 TJ1 0
theorem nmJ1 : ∀ a, a < 0 → ∀ b, b < 0 → a ≠ b → (TJ1 a).2.1 ≠ (TJ1 b).2.1 := by decide +kernel
theorem tyJ1_ok : ∀ k, k < 0 → parseFieldDescriptor (TJ1 k).2.2.1 = some (tyJ1 k) := by decide +kernel
abbrev cJ1_charAt_3b067 : ByteArray := prog_18_method_2_code
def yJ1_charAt_3b067 : MethodName := ⟨RJ1, "charAt", "([BI)C"⟩
def RJ2 : String := "java/lang/StringUTF16"
def TJ2 : u_T := fun k => match k with
  | _ => ("", "", "", false)
def tyJ2 : Nat → FieldType := fun k => match k with
  | _ => .int
abbrev wsJ20 : List Cond := u_ws RJ2 TJ2 0
theorem nmJ2 : ∀ a, a < 0 → ∀ b, b < 0 → a ≠ b → (TJ2 a).2.1 ≠ (TJ2 b).2.1 := by decide +kernel
theorem tyJ2_ok : ∀ k, k < 0 → parseFieldDescriptor (TJ2 k).2.2.1 = some (tyJ2 k) := by decide +kernel
abbrev cJ2_getChar_3b067 : ByteArray := prog_19_method_5_code
def yJ2_getChar_3b067 : MethodName := ⟨RJ2, "getChar", "([BI)C"⟩
abbrev cJ2_length_9d52b : ByteArray := prog_19_method_6_code
def yJ2_length_9d52b : MethodName := ⟨RJ2, "length", "([B)I"⟩
abbrev cJ2_charAt_3b067 : ByteArray := prog_19_method_83_code
def yJ2_charAt_3b067 : MethodName := ⟨RJ2, "charAt", "([BI)C"⟩
abbrev cJ2_checkIndex_2214a : ByteArray := prog_19_method_91_code
def yJ2_checkIndex_2214a : MethodName := ⟨RJ2, "checkIndex", "(I[B)V"⟩
def RJ10 : String := "java/lang/System"
def TJ10 : u_T := fun k => match k with
  | _ => ("", "", "", false)
def tyJ10 : Nat → FieldType := fun k => match k with
  | _ => .int
abbrev wsJ100 : List Cond := u_ws RJ10 TJ10 0
theorem nmJ10 : ∀ a, a < 0 → ∀ b, b < 0 → a ≠ b → (TJ10 a).2.1 ≠ (TJ10 b).2.1 := by decide +kernel
theorem tyJ10_ok : ∀ k, k < 0 → parseFieldDescriptor (TJ10 k).2.2.1 = some (tyJ10 k) := by decide +kernel
def RJ3 : String := "jdk/internal/util/Preconditions"
def TJ3 : u_T := fun k => match k with
  | _ => ("", "", "", false)
def tyJ3 : Nat → FieldType := fun k => match k with
  | _ => .int
abbrev wsJ30 : List Cond := u_ws RJ3 TJ3 0
theorem nmJ3 : ∀ a, a < 0 → ∀ b, b < 0 → a ≠ b → (TJ3 a).2.1 ≠ (TJ3 b).2.1 := by decide +kernel
theorem tyJ3_ok : ∀ k, k < 0 → parseFieldDescriptor (TJ3 k).2.2.1 = some (tyJ3 k) := by decide +kernel
abbrev cJ3_checkIndex_8e157 : ByteArray := prog_21_method_11_code
def yJ3_checkIndex_8e157 : MethodName := ⟨RJ3, "checkIndex", "(IILjava/util/function/BiFunction;)I"⟩
def RL : String := "OneBellLaw"
abbrev cL_law : ByteArray := code
def yL_law : MethodName := ⟨RL, "law", "([I)Z"⟩
abbrev vwCl : List vw_C := [(RX0, TX0, 16), (RX1, TX1, 0), (RX2, TX2, 5), (RX3, TX3, 0), (RX4, TX4, 0), (RX5, TX5, 9), (RX6, TX6, 9), (RX7, TX7, 0), (RX8, TX8, 8), (RX9, TX9, 17), (RX10, TX10, 0), (RX11, TX11, 13), (RX12, TX12, 24)]
end
section
/-! a world by units: lists of cells, flattened; calls replace units and keep the rest -/
abbrev US : Type := (Nat → Int32) × (Nat → Int64) × (Nat → Nat → Int32)
def upi (v : US) (k : Nat) (x : Int32) : US := (fun j => if j = k then x else v.1 j, v.2.1, v.2.2)
def upl (v : US) (k : Nat) (x : Int64) : US := (v.1, fun j => if j = k then x else v.2.1 j, v.2.2)
def upr (v : US) (k : Nat) (f : Nat → Int32) : US := (v.1, v.2.1, fun j => if j = k then f else v.2.2 j)
def upa (v : US) (k i : Nat) (x : Int32) : US := upr v k (upd (v.2.2 k) i x)
def b2i (b : Bool) : Int32 := if b then 1 else 0
theorem ck_some {α : Type} {i : Int32} {n : Nat} {k : Option α} {b : α} (h : (if i < 0 ∨ n ≤ i.toNatClampNeg then none else k) = some b) : vp_in i n ∧ k = some b := by
  by_cases hc : i < 0 ∨ n ≤ i.toNatClampNeg
  · rw [if_pos hc] at h; cases h
  · rw [if_neg hc] at h; exact ⟨hc, h⟩
theorem nz_some {α : Type} {i : Int32} {k : Option α} {b : α} (h : (if i = 0 then none else k) = some b) : ¬ i = 0 ∧ k = some b := by
  by_cases hc : i = 0
  · rw [if_pos hc] at h; cases h
  · rw [if_neg hc] at h; exact ⟨hc, h⟩
theorem nzl_some {α : Type} {i : Int64} {k : Option α} {b : α} (h : (if i = 0 then none else k) = some b) : ¬ i = 0 ∧ k = some b := by
  by_cases hc : i = 0
  · rw [if_pos hc] at h; cases h
  · rw [if_neg hc] at h; exact ⟨hc, h⟩
theorem bd_some {α β : Type} {x : Option α} {f : α → Option β} {b : β} (h : x.bind f = some b) : ∃ a, x = some a ∧ f a = some b := by
  cases x with
  | none => cases h
  | some a => exact ⟨a, rfl, h⟩
theorem it_t {α : Type} {c : Prop} [Decidable c] {x y r : α} (hc : c) (h : (if c then x else y) = r) : x = r := by rw [if_pos hc] at h; exact h
theorem it_f {α : Type} {c : Prop} [Decidable c] {x y r : α} (hc : ¬ c) (h : (if c then x else y) = r) : y = r := by rw [if_neg hc] at h; exact h
def rpU : List va_W → List Nat → List va_W → List va_W
  | us, i :: is, u :: uc => rpU (us.set i u) is uc
  | us, _, _ => us
theorem rpU_get : ∀ (is : List Nat) (uc us : List va_W), is.length = uc.length → ∀ (j : Nat) (u : va_W), (rpU us is uc)[j]? = some u → (∃ k : Nat, is[k]? = some j ∧ uc[k]? = some u) ∨ (j ∉ is ∧ us[j]? = some u)
  | [], uc, us, _, j, u, h => Or.inr ⟨List.not_mem_nil, by cases uc <;> exact h⟩
  | i :: is, [], us, hl, j, u, h => by cases hl
  | i :: is, u0 :: uc, us, hl, j, u, h => by
    rcases rpU_get is uc (us.set i u0) (Nat.succ.inj hl) j u h with ⟨k, h1, h2⟩ | ⟨h1, h2⟩
    · exact Or.inl ⟨k + 1, h1, h2⟩
    · by_cases hj : i = j
      · subst hj
        have hlt : i < us.length := by
          have := (List.getElem?_eq_some_iff.mp h2).1
          rwa [List.length_set] at this
        rw [List.getElem?_set_self hlt] at h2
        cases h2
        exact Or.inl ⟨0, rfl, rfl⟩
      · rw [List.getElem?_set_ne hj] at h2
        exact Or.inr ⟨fun hm => (List.mem_cons.mp hm).elim (fun e => hj e.symm) h1, h2⟩
theorem rpU_fst : ∀ (is : List Nat) (uc uc' us : List va_W), is.map (fun i => us[i]?) = uc.map some → va_nd is = true → uc'.map (List.map Prod.fst) = uc.map (List.map Prod.fst) → (rpU us is uc').map (List.map Prod.fst) = us.map (List.map Prod.fst)
  | [], uc, uc', us, _, _, _ => by cases uc' <;> rfl
  | i :: is, uc, [], us, _, _, _ => rfl
  | i :: is, [], u' :: uc', us, h, _, _ => by cases h
  | i :: is, u0 :: uc, u' :: uc', us, h, hn, hm => by
    have h0 : us[i]? = some u0 := (List.cons.inj h).1
    have hr := (List.cons.inj h).2
    have hm0 : u'.map Prod.fst = u0.map Prod.fst := (List.cons.inj hm).1
    simp only [va_nd, Bool.and_eq_true, decide_eq_true_eq] at hn
    have hset : (us.set i u').map (List.map Prod.fst) = us.map (List.map Prod.fst) := by
      rw [List.map_set, hm0]
      apply List.ext_getElem?
      intro j
      by_cases hj : i = j
      · subst hj
        have hlt : i < us.length := (List.getElem?_eq_some_iff.mp h0).1
        rw [List.getElem?_set_self (by rw [List.length_map]; exact hlt), List.getElem?_map, h0]
        rfl
      · rw [List.getElem?_set_ne hj]
    rw [show rpU us (i :: is) (u' :: uc') = rpU (us.set i u') is uc' from rfl, rpU_fst is uc uc' (us.set i u') ?_ hn.2 (List.cons.inj hm).2, hset]
    rw [← hr]
    apply List.map_congr_left
    intro j hj
    rw [List.getElem?_set_ne (fun e => hn.1 (by rw [e]; exact hj))]
theorem va_D_fst {A : Nat → Prop} {ws ws' : va_W} (h : ws'.map Prod.fst = ws.map Prod.fst) (hD : va_D A ws) : va_D A ws' := by
  have key : ∀ (k : Nat) (q : Nat × va_E), ws'[k]? = some q → ∃ q0, ws[k]? = some q0 ∧ q0.1 = q.1 := by
    intro k q hk
    have h1 : (ws'.map Prod.fst)[k]? = some q.1 := by rw [List.getElem?_map, hk]; rfl
    rw [h, List.getElem?_map] at h1
    cases h2 : ws[k]? with
    | none => rw [h2] at h1; cases h1
    | some q0 => rw [h2] at h1; exact ⟨q0, rfl, Option.some.inj h1⟩
  refine ⟨fun i j x y hi hj hxy => ?_, fun k q hk => ?_⟩
  · obtain ⟨x0, h1, h2⟩ := key i x hi
    obtain ⟨y0, h3, h4⟩ := key j y hj
    exact hD.1 i j x0 y0 h1 h3 (h2.trans (hxy.trans h4.symm))
  · obtain ⟨q0, h1, h2⟩ := key k q hk
    rw [← h2]
    exact hD.2 k q0 h1
theorem fl_fst {us us' : List va_W} (h : us'.map (List.map Prod.fst) = us.map (List.map Prod.fst)) : us'.flatten.map Prod.fst = us.flatten.map Prod.fst := by
  rw [List.map_flatten, List.map_flatten, h]
theorem va_D_pw {A : Nat → Prop} {ws : va_W} (hD : va_D A ws) : ws.Pairwise (fun p q => p.1 ≠ q.1) := by
  rw [List.pairwise_iff_getElem]
  intro i j hi hj hij he
  have := hD.1 i j _ _ (List.getElem?_eq_getElem hi) (List.getElem?_eq_getElem hj) he
  omega
theorem fl_apart {A : Nat → Prop} {us : List va_W} (hD : va_D A us.flatten) {i j : Nat} {u v : va_W} (hi : us[i]? = some u) (hj : us[j]? = some v) (hne : i ≠ j) {p q : Nat × va_E} (hp : p ∈ u) (hq : q ∈ v) : p.1 ≠ q.1 := by
  have h := (List.pairwise_flatten.mp (va_D_pw hD)).2
  rw [List.pairwise_iff_getElem] at h
  obtain ⟨li, ei⟩ := List.getElem?_eq_some_iff.mp hi
  obtain ⟨lj, ej⟩ := List.getElem?_eq_some_iff.mp hj
  rcases Nat.lt_or_gt_of_ne hne with hlt | hlt
  · exact h i j li lj hlt p (by rw [ei]; exact hp) q (by rw [ej]; exact hq)
  · exact fun e => h j i lj li hlt q (by rw [ej]; exact hq) p (by rw [ei]; exact hp) e.symm
theorem va_P.mem {D : va_G} {cl : List vw_C} {ws : va_W} {H : Heap} (h : va_P D cl ws H) {q : Nat × va_E} (hq : q ∈ ws) : va_at D cl q H := by
  obtain ⟨i, hi⟩ := List.getElem?_of_mem hq
  exact h i q hi
theorem va_P.ofMem {D : va_G} {cl : List vw_C} {ws : va_W} {H : Heap} (h : ∀ q ∈ ws, va_at D cl q H) : va_P D cl ws H := fun _ q hk => h q (List.mem_of_getElem? hk)
theorem us_mem {us : List va_W} {i : Nat} {u : va_W} {q : Nat × va_E} (hi : us[i]? = some u) (hq : q ∈ u) : q ∈ us.flatten := List.mem_flatten.mpr ⟨u, List.mem_of_getElem? hi, hq⟩
theorem at_is {us uc : List va_W} {is : List Nat} (hC : is.map (fun i => us[i]?) = uc.map some) {k : Nat} {u : va_W} (hk : uc[k]? = some u) : ∃ i : Nat, is[k]? = some i ∧ us[i]? = some u := by
  have h1 : (is.map (fun i => us[i]?))[k]? = some (some u) := by rw [hC, List.getElem?_map, hk]; rfl
  rw [List.getElem?_map] at h1
  cases hi : is[k]? with
  | none => rw [hi] at h1; cases h1
  | some i => rw [hi] at h1; exact ⟨i, rfl, Option.some.inj h1⟩
theorem sub_mem {us uc : List va_W} {is : List Nat} (hC : is.map (fun i => us[i]?) = uc.map some) {q : Nat × va_E} (hq : q ∈ uc.flatten) : q ∈ us.flatten := by
  obtain ⟨u, hu, hqu⟩ := List.mem_flatten.mp hq
  obtain ⟨k, hk⟩ := List.getElem?_of_mem hu
  obtain ⟨i, -, hi⟩ := at_is hC hk
  exact us_mem hi hqu
theorem va_P.us {D : va_G} {cl : List vw_C} {us uc : List va_W} {is : List Nat} {H : Heap} (h : va_P D cl us.flatten H) (hC : is.map (fun i => us[i]?) = uc.map some) : va_P D cl uc.flatten H := va_P.ofMem fun _ hq => h.mem (sub_mem hC hq)
theorem va_nd_get : ∀ (l : List Nat), va_nd l = true → ∀ {i j a : Nat}, l[i]? = some a → l[j]? = some a → i = j := fun l h i j a h1 h2 => va_nd_inj l h i j a h1 h2
theorem va_D.us {A : Nat → Prop} {us uc : List va_W} {is : List Nat} (hD : va_D A us.flatten) (hn : va_nd is = true) (hC : is.map (fun i => us[i]?) = uc.map some) : va_D A uc.flatten := by
  have hpw := va_D_pw hD
  have hin := List.pairwise_flatten.mp hpw
  have h : uc.flatten.Pairwise (fun p q => p.1 ≠ q.1) := by
    rw [List.pairwise_flatten]
    refine ⟨fun u hu => ?_, ?_⟩
    · obtain ⟨k, hk⟩ := List.getElem?_of_mem hu
      obtain ⟨i, -, hi⟩ := at_is hC hk
      exact hin.1 u (List.mem_of_getElem? hi)
    · rw [List.pairwise_iff_getElem]
      intro a b ha hb hab p hp q hq
      obtain ⟨i, h1, hi⟩ := at_is hC (List.getElem?_eq_getElem ha)
      obtain ⟨j, h2, hj⟩ := at_is hC (List.getElem?_eq_getElem hb)
      have hij : i ≠ j := by
        intro e
        subst e
        have := va_nd_get is hn h1 h2
        omega
      exact fl_apart hD hi hj hij hp hq
  refine ⟨fun i j x y hi hj hxy => ?_, fun k q hk => ?_⟩
  · rw [List.pairwise_iff_getElem] at h
    obtain ⟨li, ei⟩ := List.getElem?_eq_some_iff.mp hi
    obtain ⟨lj, ej⟩ := List.getElem?_eq_some_iff.mp hj
    rcases Nat.lt_trichotomy i j with hlt | he | hlt
    · exact absurd (by rw [ei, ej]; exact hxy) (h i j li lj hlt)
    · exact he
    · exact absurd (by rw [ei, ej]; exact hxy.symm) (h j i lj li hlt)
  · obtain ⟨k2, hk2⟩ := List.getElem?_of_mem (sub_mem hC (List.mem_of_getElem? hk))
    exact hD.2 k2 q hk2
/-- the frame rule by units: the callee's units are replaced, all others stay -/
theorem us_join {A : Nat → Prop} {D : va_G} {cl : List vw_C} {us uc uc' : List va_W} {is : List Nat} {H H1 : Heap} (hP : va_P D cl us.flatten H) (hD : va_D A us.flatten) (hn : va_nd is = true) (hC : is.map (fun i => us[i]?) = uc.map some) (hm : uc'.map (List.map Prod.fst) = uc.map (List.map Prod.fst))
    (hk : ∀ q : Nat, q < H.size → ¬ va_A uc.flatten H.size q → H1[q]? = H[q]?) (hP1 : va_P D cl uc'.flatten H1) : va_P D cl (rpU us is uc').flatten H1 ∧ va_D A (rpU us is uc').flatten := by
  have hl : is.length = uc'.length := by
    have h1 := congrArg List.length hC
    have h2 := congrArg List.length hm
    simp only [List.length_map] at h1 h2
    omega
  refine ⟨va_P.ofMem fun q hq => ?_, va_D_fst (fl_fst (rpU_fst is uc uc' us hC hn hm)) hD⟩
  obtain ⟨u, hu, hqu⟩ := List.mem_flatten.mp hq
  obtain ⟨j, hj⟩ := List.getElem?_of_mem hu
  rcases rpU_get is uc' us hl j u hj with ⟨k, h1, h2⟩ | ⟨h1, h2⟩
  · exact hP1.mem (us_mem h2 hqu)
  · have h0 := hP.mem (us_mem h2 hqu)
    refine h0.kept (hk q.1 h0.lt ?_)
    rintro (⟨k, e, hke⟩ | hge)
    · obtain ⟨u2, hu2, hq2⟩ := List.mem_flatten.mp (List.mem_of_getElem? hke)
      obtain ⟨k2, hk2⟩ := List.getElem?_of_mem hu2
      obtain ⟨i, h3, h4⟩ := at_is hC hk2
      exact fl_apart hD h2 h4 (fun e => h1 (by rw [e]; exact List.mem_of_getElem? h3)) hqu hq2 rfl
    · have := h0.lt
      omega
theorem us_free {A0 : Nat → Prop} {us uc : List va_W} {is : List Nat} {H0 H : Heap} {locs : List Loc} (hD : va_D A0 us.flatten) (hS : va_S A0 H0 H locs) (hA : ∀ q, H0.size ≤ q → A0 q) (hC : is.map (fun i => us[i]?) = uc.map some) : ∀ q, va_A uc.flatten H.size q → A0 q := by
  rintro q (⟨k, e, hke⟩ | hge)
  · obtain ⟨k2, hk2⟩ := List.getElem?_of_mem (sub_mem hC (List.mem_of_getElem? hke))
    exact hD.2 k2 _ hk2
  · exact hA q (Nat.le_trans hS.1 hge)
/-- a cell of a unit is a cell of the flat world, and may be set there -/
theorem fl_at : ∀ (us : List va_W) (i j : Nat) (u : va_W) (q : Nat × va_E), us[i]? = some u → u[j]? = some q → ∃ k : Nat, us.flatten[k]? = some q ∧ ∀ q', us.flatten.set k q' = (us.set i (u.set j q')).flatten
  | [], i, j, u, q, h, _ => by simp at h
  | v :: us, 0, j, u, q, h, h2 => by
    rw [List.getElem?_cons_zero] at h
    cases h
    have hl := (List.getElem?_eq_some_iff.mp h2).1
    refine ⟨j, ?_, fun q' => ?_⟩
    · rw [List.flatten_cons, List.getElem?_append_left hl]; exact h2
    · rw [List.flatten_cons, List.set_append_left _ _ hl]; rfl
  | v :: us, i + 1, j, u, q, h, h2 => by
    rw [List.getElem?_cons_succ] at h
    obtain ⟨k, h3, h4⟩ := fl_at us i j u q h h2
    refine ⟨v.length + k, ?_, fun q' => ?_⟩
    · rw [List.flatten_cons, List.getElem?_append_right (by omega), Nat.add_sub_cancel_left]; exact h3
    · rw [List.flatten_cons, List.set_append_right _ _ (by omega), Nat.add_sub_cancel_left, h4 q']; rfl
end
section
/-! the tables' good words; what holds all along (classes, nest links, string constants, statics); a method's context, its world, its contract -/
def gt : List Cond := lw_tbl.filter goodWord
theorem gt_of {w : Cond} (i : Nat) (h : tables_1[i]? = some w) (hg : goodWord w = true) : w ∈ gt := List.mem_filter.mpr ⟨List.mem_append_right _ (List.mem_of_getElem? h), hg⟩
theorem gt_sel {w : Cond} (i : Nat) (h : (k2_sels lw_privs)[i]? = some w) (hg : goodWord w = true) : w ∈ gt := List.mem_filter.mpr ⟨List.mem_append_left _ (List.mem_of_getElem? h), hg⟩
theorem gt_good {w : Cond} (h : w ∈ gt) : w ∈ gt ∧ ((w.onTables && w.keeps) = true ∨ ∃ ty, w = .arrayClass ty) := ⟨h, good_of_word (List.mem_filter.mp h).2⟩
theorem goodIn_gt {w : Cond} (h : w ∈ gt) : GoodIn gt (w :: gt) := fun z hz => gt_good ((List.mem_cons.mp hz).elim (fun e => e ▸ h) id)
theorem goodIn_gtA {pre : List Cond} {w : Cond} (hp : ∀ z ∈ pre, z ∈ gt) (h : w ∈ gt) : GoodIn gt (pre ++ (w :: gt)) := fun z hz => (List.mem_append.mp hz).elim (fun a => gt_good (hp z a)) (fun b => goodIn_gt h z b)
abbrev GG : Type := va_G × (Nat → ClassId) × (Nat → Nat)
def tys3 (K : Nat → ClassId) : List (ClassId × FieldType) := [(K 0, .int), (K 1, .boolean), (K 2, .object "OneBell$Village")]
def strIx : List Nat := [63, 72, 77, 82, 87]
def strTx : List String := ["thing", "cut", "damp", "errand", "rule"]
def strLen : List Nat := [5, 3, 4, 6, 4]
def strByt : List (List Int32) := [[116, 104, 105, 110, 103], [99, 117, 116], [100, 97, 109, 112], [101, 114, 114, 97, 110, 100], [114, 117, 108, 101]]
def facL : List Int32 := [1, 1, 2, 6, 24, 120]
def nestL : List (String × Nat × MethodName × String) := [("OneBell", 11, { cls := "OneBell$Village", name := "<init>", desc := "()V" }, "OneBell"), ("OneBell", 46, { cls := "OneBell$Kinds", name := "<init>", desc := "()V" }, "OneBell"), ("OneBell$Kinds", 9, { cls := "OneBell$Door", name := "<init>", desc := "()V" }, "OneBell"), ("OneBell$Kinds", 18, { cls := "OneBell$Latch", name := "<init>", desc := "()V" }, "OneBell"), ("OneBell$Latch", 1, { cls := "OneBell$Door", name := "<init>", desc := "()V" }, "OneBell"), ("OneBell$Kinds", 25, { cls := "OneBell$Lid", name := "<init>", desc := "()V" }, "OneBell"), ("OneBell$Lid", 1, { cls := "OneBell$Door", name := "<init>", desc := "()V" }, "OneBell"), ("OneBell$Kinds", 32, { cls := "OneBell$Wheel", name := "<init>", desc := "()V" }, "OneBell"), ("OneBell$Wheel", 1, { cls := "OneBell$Latch", name := "<init>", desc := "()V" }, "OneBell"), ("OneBell$Kinds", 39, { cls := "OneBell$Sluice", name := "<init>", desc := "()V" }, "OneBell"), ("OneBell$Sluice", 1, { cls := "OneBell$Latch", name := "<init>", desc := "()V" }, "OneBell"), ("OneBell", 74, { cls := "OneBell$Reader", name := "<init>", desc := "()V" }, "OneBell"), ("OneBell$Reader", 11, { cls := "OneBell$Village", name := "<init>", desc := "()V" }, "OneBell"), ("OneBell$Village", 70, { cls := "OneBell", name := "within", desc := "(III)Z" }, "OneBell"), ("OneBell$Reader", 126, { cls := "OneBell", name := "within", desc := "(III)Z" }, "OneBell"), ("OneBell$Reader", 106, { cls := "OneBell", name := "has", desc := "(II)Z" }, "OneBell"), ("OneBell$Swing", 69, { cls := "OneBell", name := "has", desc := "(II)Z" }, "OneBell"), ("OneBell$Day", 105, { cls := "OneBell", name := "has", desc := "(II)Z" }, "OneBell"), ("OneBell$Village", 80, { cls := "OneBell", name := "has", desc := "(II)Z" }, "OneBell"), ("OneBell$SlackSearch", 87, { cls := "OneBell", name := "has", desc := "(II)Z" }, "OneBell")]
def EV (G : GG) (U : State) : Prop := va_K G.1 vwCl (tys3 G.2.1) U ∧ (∀ q ∈ nestL, va_Nw (.methodLinkNest q.1 q.2.1 q.2.2.1 q.2.2.2) U) ∧ ∀ i : Nat, i < 5 → vk_R "OneBell$Reader" (strIx.getD i 0) (strTx.getD i "") (G.2.2 (10 + i)) U
def SX (G : GG) (A : Nat → Prop) (U : State) (H : Heap) : Prop := va_Z "OneBell$Day" "FACTORIAL" "[I" (.ref (G.2.2 0)) A U H ∧ va_T .int (G.2.2 0) 6 (fun j => .int (facL.getD j 0)) A U H ∧ vk_S 5 strLen strByt (fun i => G.2.2 (10 + i)) (fun i => G.2.2 (20 + i)) A U H ∧ va_Z "java/lang/String" "COMPACT_STRINGS" "Z" (.int 1) A U H ∧ va_Zq "jdk/internal/util/Preconditions" "SIOOBE_FORMATTER" "Ljava/util/function/BiFunction;" A U H
theorem EV.warm {G : GG} {s U : State} (hW : s.WarmedH U.vm) (h : EV G s) : EV G U := ⟨va_K.moved hW.alike h.1, fun q hq => va_Nw.warmM hW (h.2.1 q hq), fun i hi => (h.2.2 i hi).warm hW⟩
theorem EV.call {G : GG} {U : State} {g : JFrame} {mk : MethodId} {a : Array Value} (h : EV G U) : EV G (U.calling g mk a) := ⟨va_K.moved (u := U) (U := U.calling g mk a) (Vm.Alike.refl U.vm) h.1, fun q hq => va_Nw.same (u := U) (U := U.calling g mk a) rfl rfl (h.2.1 q hq), fun i hi => (h.2.2 i hi).same (U := U.calling g mk a) rfl⟩
theorem SX.call {G : GG} {A : Nat → Prop} {U : State} {H : Heap} {g : JFrame} {mk : MethodId} {a : Array Value} (h : SX G A U H) : SX G A (U.calling g mk a) H := ⟨va_Z.moved (u := U) (U := U.calling g mk a) (Vm.Alike.refl U.vm) h.1, va_T.moved (u := U) (U := U.calling g mk a) (Vm.Alike.refl U.vm) h.2.1, vk_S.moved (u := U) (U := U.calling g mk a) (Vm.Alike.refl U.vm) h.2.2.1, va_Z.moved (u := U) (U := U.calling g mk a) (Vm.Alike.refl U.vm) h.2.2.2.1, va_Zq.moved (u := U) (U := U.calling g mk a) (Vm.Alike.refl U.vm) h.2.2.2.2⟩
theorem SX.to {G : GG} {A B : Nat → Prop} {s U : State} {H : Heap} {locs : List Loc} (h : SX G A s s.heap) (hS : va_S A s.heap H locs) (hB : ∀ q, B q → A q) (hv : s.vm.Alike U.vm) : SX G B U H :=
  ⟨va_Z.moved hv ((h.1.kept hS.2.1).narrow hB), va_T.moved hv ((h.2.1.kept hS.2.1).narrow hB), vk_S.moved hv ((h.2.2.1.kept hS.2.1).narrow hB), va_Z.moved hv ((h.2.2.2.1.kept hS.2.1).narrow hB), va_Zq.moved hv ((h.2.2.2.2.kept hS.2.1).narrow hB)⟩
def CP (G : GG) (us : List va_W) (sz : Nat) (U : State) : Prop := U.heap.size = sz ∧ va_P G.1 vwCl us.flatten U.heap ∧ EV G U ∧ SX G (va_A us.flatten sz) U U.heap ∧ va_D (fun _ => True) us.flatten
theorem CP.blind {G : GG} {us : List va_W} {sz : Nat} {av : List Value} : FrameBlind (va_Pc av (CP G us sz)) := fun _ _ _ _ q => ⟨q.1, q.2.1, q.2.2.1, q.2.2.2.1.call, q.2.2.2.2.1.call, q.2.2.2.2.2⟩
/-- a method's context -/
def MC (own : String) (cc : ByteArray) (nL : Nat) (rt : Option FieldType) (G : GG) (A : Nat → Prop) (p : Program) (s : State) (m : MethodId) (args : Array Value) (meth : Method) (c : Code) : Prop :=
  p.tables.exec = Jvm.exec ∧ c.code = cc ∧ meth.sig.returnType = rt ∧ c.maxLocals = nL ∧ s.vm.findClass own = some m.cls ∧ (∀ w ∈ gt, w.before args s = true) ∧ EV G s ∧ SX G A s s.heap ∧ (∀ q, s.heap.size ≤ q → A q) ∧ meth.locks = false
section KMC
variable {own : String} {cc : ByteArray} {nL : Nat} {rt : Option FieldType} {G : GG} {A : Nat → Prop} {p : Program} {s : State} {m : MethodId} {args : Array Value} {meth : Method} {c : Code}
theorem MC.hx (C : MC own cc nL rt G A p s m args meth c) : p.tables.exec = Jvm.exec := C.1
theorem MC.hb (C : MC own cc nL rt G A p s m args meth c) : c.code = cc := C.2.1
theorem MC.hr (C : MC own cc nL rt G A p s m args meth c) : meth.sig.returnType = rt := C.2.2.1
theorem MC.hml (C : MC own cc nL rt G A p s m args meth c) : c.maxLocals = nL := C.2.2.2.1
theorem MC.hown (C : MC own cc nL rt G A p s m args meth c) : s.vm.findClass own = some m.cls := C.2.2.2.2.1
theorem MC.hts (C : MC own cc nL rt G A p s m args meth c) : ∀ w ∈ gt, w.before args s = true := C.2.2.2.2.2.1
theorem MC.ev (C : MC own cc nL rt G A p s m args meth c) : EV G s := C.2.2.2.2.2.2.1
theorem MC.hK (C : MC own cc nL rt G A p s m args meth c) : va_K G.1 vwCl (tys3 G.2.1) s := C.2.2.2.2.2.2.1.1
theorem MC.sx (C : MC own cc nL rt G A p s m args meth c) : SX G A s s.heap := C.2.2.2.2.2.2.2.1
theorem MC.hA (C : MC own cc nL rt G A p s m args meth c) : ∀ q, s.heap.size ≤ q → A q := C.2.2.2.2.2.2.2.2.1
theorem MC.hk (C : MC own cc nL rt G A p s m args meth c) : meth.locks = false := C.2.2.2.2.2.2.2.2.2
theorem MC.fix (C : MC own cc nL rt G A p s m args meth c) : CallFix p m c cc nL s args gt own := ⟨C.hx, C.hb, C.hml, C.hown, C.hts⟩
end KMC
/-- the world of a method at a place in its run -/
def HP (G : GG) (A : Nat → Prop) (s : State) (us : List va_W) (H : Heap) (locs : List Loc) : Prop := va_P G.1 vwCl us.flatten H ∧ va_D A us.flatten ∧ va_S A s.heap H locs
def wdm (y : MethodName) (cc : ByteArray) (maxL : Nat) (ret : Option FieldType) : List Cond := Cond.code y cc maxL ret :: gt
def rmm (d : Nat) : Room := { frames := d, cells := 0, slots := 0, locals := 60 * d }
def fsts (us : List va_W) : List (List Nat) := us.map (List.map Prod.fst)
/-- contracts without new cells: int, long, void, reference -/
def MI (l : Launch) (y : MethodName) (cc : ByteArray) (maxL : Nat) (ret : Option FieldType) (d : Nat) (av : List Value) (G : GG) (us : List va_W) (r : Int32) (us' : List va_W) : Prop :=
  fsts us' = fsts us ∧ ∀ sz, Met l y (wdm y cc maxL ret) (rmm d) (va_Pc av (CP G us sz)) (va_Qi (fun x (_ : Unit) => x = r) (fun _ t => va_P G.1 vwCl us'.flatten t.heap) (va_A us.flatten sz)) 0 0 (va_A us.flatten sz)
def ML (l : Launch) (y : MethodName) (cc : ByteArray) (maxL : Nat) (ret : Option FieldType) (d : Nat) (av : List Value) (G : GG) (us : List va_W) (r : Int64) (us' : List va_W) : Prop :=
  fsts us' = fsts us ∧ ∀ sz, Met l y (wdm y cc maxL ret) (rmm d) (va_Pc av (CP G us sz)) (va_Ql (fun x (_ : Unit) => x = r) (fun _ t => va_P G.1 vwCl us'.flatten t.heap) (va_A us.flatten sz)) 0 0 (va_A us.flatten sz)
def MV (l : Launch) (y : MethodName) (cc : ByteArray) (maxL : Nat) (ret : Option FieldType) (d : Nat) (av : List Value) (G : GG) (us : List va_W) (us' : List va_W) : Prop :=
  fsts us' = fsts us ∧ ∀ sz, Met l y (wdm y cc maxL ret) (rmm d) (va_Pc av (CP G us sz)) (va_Qv (fun (_ : Unit) => True) (fun _ t => va_P G.1 vwCl us'.flatten t.heap) (va_A us.flatten sz)) 0 0 (va_A us.flatten sz)
def MR (l : Launch) (y : MethodName) (cc : ByteArray) (maxL : Nat) (ret : Option FieldType) (d : Nat) (av : List Value) (G : GG) (us : List va_W) (r : Nat) (us' : List va_W) : Prop :=
  fsts us' = fsts us ∧ ∀ sz, Met l y (wdm y cc maxL ret) (rmm d) (va_Pc av (CP G us sz)) (va_Qr (fun (_ : Unit) => True) (fun _ a t => a = r ∧ va_P G.1 vwCl us'.flatten t.heap) (va_A us.flatten sz)) 0 0 (va_A us.flatten sz)
def QI (below : List Frame) (G : GG) (A : Nat → Prop) (args : Array Value) (s : State) (r : Int32) (us' : List va_W) : State → Prop := MQ below (va_Qi (fun x (_ : Unit) => x = r) (fun _ t => va_P G.1 vwCl us'.flatten t.heap) A) args s 0 0 A
def QL (below : List Frame) (G : GG) (A : Nat → Prop) (args : Array Value) (s : State) (r : Int64) (us' : List va_W) : State → Prop := MQ below (va_Ql (fun x (_ : Unit) => x = r) (fun _ t => va_P G.1 vwCl us'.flatten t.heap) A) args s 0 0 A
def QV (below : List Frame) (G : GG) (A : Nat → Prop) (args : Array Value) (s : State) (us' : List va_W) : State → Prop := MQ below (va_Qv (fun (_ : Unit) => True) (fun _ t => va_P G.1 vwCl us'.flatten t.heap) A) args s 0 0 A
def QA (below : List Frame) (G : GG) (A : Nat → Prop) (args : Array Value) (s : State) (r : Nat) (us' : List va_W) : State → Prop := MQ below (va_Qr (fun (_ : Unit) => True) (fun _ a t => a = r ∧ va_P G.1 vwCl us'.flatten t.heap) A) args s 0 0 A
section KINTRO
variable {l : Launch} {y : MethodName} {cc : ByteArray} {maxL : Nat} {ret : Option FieldType} {d : Nat} {av : List Value} {G : GG} {us us' : List va_W}
theorem entry_of {p : Program} {e : Env} {s s₁ : State} {m : MethodId} {args : Array Value} {below : List Frame} {meth : Method} {c : Code} {sz : Nat} (B : BodyLoose p l y (headSpec (wdm y cc maxL ret) (rmm d)) cc maxL ret e s m args below meth c s₁) (hml : c.maxLocals = maxL) (hv : va_Pc av (CP G us sz) args s) :
    args = av.toArray ∧ sz = s.heap.size ∧ MC y.cls cc maxL ret G (va_A us.flatten s.heap.size) p s m args meth c ∧ HP G (va_A us.flatten s.heap.size) s us s.heap [] := by
  obtain ⟨h1, h2, h3, h4, h5, h6⟩ := hv
  subst h2
  have hts := atoms_spec (ws := wdm y cc maxL ret) B.pre
  exact ⟨h1, rfl, ⟨B.exec, B.bytes, B.returns, hml, findClass_of_methodNamed B.named, fun w hw => hts w (List.mem_cons_of_mem _ hw), h4, h5, fun q h => Or.inr h, B.notSynchronized⟩, h3, h6.self, va_S.rf⟩
theorem ls_of (hlen : (lg_sl av).length ≤ maxL) {m : MethodId} {P : JFrame → Prop} (h : ∀ ls : Array Slot, lv_has ls maxL (lv_args 0 av) → P (F0 m 0 ls [])) : P (entryFrame m av.toArray maxL) := by
  have hl := lv_entry av (n := maxL) hlen
  rw [lg_entry_eq]
  exact h _ hl
theorem MI.intro {r : Int32} (hy : plainName y.cls = true) (hm : fsts us' = fsts us) (hlen : (lg_sl av).length ≤ maxL)
    (body : ∀ (p : Program) (e : Env) (s : State) (m : MethodId) (args : Array Value) (below : List Frame) (meth : Method) (c : Code) (A : Nat → Prop) (ls : Array Slot), MC y.cls cc maxL ret G A p s m args meth c → HP G A s us s.heap [] → lv_has ls maxL (lv_args 0 av) → W p l e (rmm d) s m args below meth c s.heap [] 0 0 (QI below G A args s r us') (F0 m 0 ls [])) : MI l y cc maxL ret d av G us r us' := by
  refine ⟨hm, fun sz => Met.ofW (cc := cc) (maxL := maxL) (ret := ret) hy rfl ?_⟩
  intro p e s m args below meth c s₁ B hml hv
  obtain ⟨rfl, rfl, C, h⟩ := entry_of B hml hv
  exact ls_of hlen (P := fun g => W p l e (rmm d) s m av.toArray below meth c s.heap [] 0 0 _ g) fun ls hl => body p e s m _ below meth c _ ls C h hl
theorem ML.intro {r : Int64} (hy : plainName y.cls = true) (hm : fsts us' = fsts us) (hlen : (lg_sl av).length ≤ maxL)
    (body : ∀ (p : Program) (e : Env) (s : State) (m : MethodId) (args : Array Value) (below : List Frame) (meth : Method) (c : Code) (A : Nat → Prop) (ls : Array Slot), MC y.cls cc maxL ret G A p s m args meth c → HP G A s us s.heap [] → lv_has ls maxL (lv_args 0 av) → W p l e (rmm d) s m args below meth c s.heap [] 0 0 (QL below G A args s r us') (F0 m 0 ls [])) : ML l y cc maxL ret d av G us r us' := by
  refine ⟨hm, fun sz => Met.ofW (cc := cc) (maxL := maxL) (ret := ret) hy rfl ?_⟩
  intro p e s m args below meth c s₁ B hml hv
  obtain ⟨rfl, rfl, C, h⟩ := entry_of B hml hv
  exact ls_of hlen (P := fun g => W p l e (rmm d) s m av.toArray below meth c s.heap [] 0 0 _ g) fun ls hl => body p e s m _ below meth c _ ls C h hl
theorem MV.intro (hy : plainName y.cls = true) (hm : fsts us' = fsts us) (hlen : (lg_sl av).length ≤ maxL)
    (body : ∀ (p : Program) (e : Env) (s : State) (m : MethodId) (args : Array Value) (below : List Frame) (meth : Method) (c : Code) (A : Nat → Prop) (ls : Array Slot), MC y.cls cc maxL ret G A p s m args meth c → HP G A s us s.heap [] → lv_has ls maxL (lv_args 0 av) → W p l e (rmm d) s m args below meth c s.heap [] 0 0 (QV below G A args s us') (F0 m 0 ls [])) : MV l y cc maxL ret d av G us us' := by
  refine ⟨hm, fun sz => Met.ofW (cc := cc) (maxL := maxL) (ret := ret) hy rfl ?_⟩
  intro p e s m args below meth c s₁ B hml hv
  obtain ⟨rfl, rfl, C, h⟩ := entry_of B hml hv
  exact ls_of hlen (P := fun g => W p l e (rmm d) s m av.toArray below meth c s.heap [] 0 0 _ g) fun ls hl => body p e s m _ below meth c _ ls C h hl
theorem MR.intro {r : Nat} (hy : plainName y.cls = true) (hm : fsts us' = fsts us) (hlen : (lg_sl av).length ≤ maxL)
    (body : ∀ (p : Program) (e : Env) (s : State) (m : MethodId) (args : Array Value) (below : List Frame) (meth : Method) (c : Code) (A : Nat → Prop) (ls : Array Slot), MC y.cls cc maxL ret G A p s m args meth c → HP G A s us s.heap [] → lv_has ls maxL (lv_args 0 av) → W p l e (rmm d) s m args below meth c s.heap [] 0 0 (QA below G A args s r us') (F0 m 0 ls [])) : MR l y cc maxL ret d av G us r us' := by
  refine ⟨hm, fun sz => Met.ofW (cc := cc) (maxL := maxL) (ret := ret) hy rfl ?_⟩
  intro p e s m args below meth c s₁ B hml hv
  obtain ⟨rfl, rfl, C, h⟩ := entry_of B hml hv
  exact ls_of hlen (P := fun g => W p l e (rmm d) s m av.toArray below meth c s.heap [] 0 0 _ g) fun ls hl => body p e s m _ below meth c _ ls C h hl
end KINTRO
/-- a class's facts, a field's links -/
def FC (ci : Nat) (C : String) (T : u_T) (N : Nat) (ty : Nat → FieldType) : Prop := vwCl[ci]? = some (C, T, N) ∧ (∀ w ∈ u_ws C T N, w ∈ gt) ∧ (∀ k, k < N → parseFieldDescriptor (T k).2.2.1 = some (ty k)) ∧ (∀ a, a < N → ∀ b, b < N → a ≠ b → (T a).2.1 ≠ (T b).2.1)
def FL (own : String) (index ci k : Nat) : Prop := ∃ (C : String) (T : u_T) (N : Nat) (ty : Nat → FieldType), FC ci C T N ty ∧ k < N ∧ Cond.fieldLink own index (T k).1 (T k).2.1 (T k).2.2.1 ∈ gt
def FP (own : String) (index ci k : Nat) (t : FieldType) : Prop := ∃ (C : String) (T : u_T) (N : Nat) (ty : Nat → FieldType), FC ci C T N ty ∧ k < N ∧ Cond.fieldLink own index (T k).1 (T k).2.1 (T k).2.2.1 ∈ gt ∧ (T k).2.2.2 = false ∧ ty k = t
theorem FL.mk {own : String} {index ci k : Nat} {C : String} {T : u_T} {N : Nat} {ty : Nat → FieldType} (h : FC ci C T N ty) (hk : k < N) (hl : Cond.fieldLink own index (T k).1 (T k).2.1 (T k).2.2.1 ∈ gt) : FL own index ci k := ⟨C, T, N, ty, h, hk, hl⟩
theorem FP.mk {own : String} {index ci k : Nat} {C : String} {T : u_T} {N : Nat} {ty : Nat → FieldType} {t : FieldType} (h : FC ci C T N ty) (hk : k < N) (hl : Cond.fieldLink own index (T k).1 (T k).2.1 (T k).2.2.1 ∈ gt) (hf : (T k).2.2.2 = false) (ht : ty k = t) : FP own index ci k t := ⟨C, T, N, ty, h, hk, hl, hf, ht⟩
theorem at_H {D : va_G} {cl : List vw_C} {ws : va_W} {t : State} {H : Heap} (ht : t.heap = H) (h : va_P D cl ws H) : va_P D cl ws t.heap := by rw [ht]; exact h
section KROWS
variable {own : String} {cc : ByteArray} {nL : Nat} {rt : Option FieldType} {G : GG} {A : Nat → Prop} {p : Program} {l : Launch} {e : Env} {R : Room} {s : State} {m : MethodId} {args : Array Value} {below : List Frame} {meth : Method} {c : Code} {H : Heap} {locs : List Loc} {cells slots : Nat} {Q : State → Prop} {pc : Nat} {ls : Array Slot} {rest : List Value} {us us' : List va_W} {u u' : va_W}
theorem g_get (C : MC own cc nL rt G A p s m args meth c) (h : HP G A s us H locs) {index ci k a : Nat} (fl : FL own index ci k) (i j : Nat) (hu : us[i]? = some u) {fs : List Value} (hc : u[j]? = some (a, .inr (ci, fs))) {v : Value} (hv : fs[k]? = some v) (hdg : decode cc pc = .ok (.getfield index, 3))
    (kk : W p l e R s m args below meth c H locs cells slots Q (F0 m (pc + 3) ls (v :: rest))) : W p l e R s m args below meth c H locs cells slots Q (F0 m pc ls (.ref a :: rest)) := by
  obtain ⟨Cn, T, N, ty, ⟨f1, f2, f3, f4⟩, hk, hl⟩ := fl
  obtain ⟨q0, hq, -⟩ := fl_at us i j u _ hu hc
  exact va_get C.hx C.hb C.hts f2 C.hown C.hK h.1 q0 hq f1 k hk (C.hts _ hl) (fun _ h9 => h9) hv hdg kk
theorem g_put (C : MC own cc nL rt G A p s m args meth c) (h : HP G A s us H locs) {index ci k a : Nat} {t : FieldType} (fp : FP own index ci k t) (i j : Nat) (hu : us[i]? = some u) {fs : List Value} (hc : u[j]? = some (a, .inr (ci, fs))) {v : Value} (hn : narrow t v = v) (hfit : fits t v = true) (hl : k < fs.length) (hdg : decode cc pc = .ok (.putfield index, 3)) (hu' : u.set j (a, .inr (ci, fs.set k v)) = u') (hus : us.set i u' = us')
    (kk : ∀ (H1 : Heap) (locs1 : List Loc), HP G A s us' H1 locs1 → W p l e R s m args below meth c H1 locs1 cells slots Q (F0 m (pc + 3) ls rest)) : W p l e R s m args below meth c H locs cells slots Q (F0 m pc ls (v :: .ref a :: rest)) := by
  obtain ⟨Cn, T, N, ty, ⟨f1, f2, f3, f4⟩, hk, hl2, hf, ht⟩ := fp
  obtain ⟨q0, hq, hset⟩ := fl_at us i j u _ hu hc
  refine va_put C.hx C.hb C.hts f2 ty f3 f4 C.hown C.hK h.1 h.2.1 h.2.2 q0 hq f1 k hk (C.hts _ hl2) (fun _ h9 => h9) hf (ty := t) (by rw [← ht]; exact f3 k hk) hn hfit hl hdg (fun H1 locs1 g1 g2 g3 => kk H1 locs1 ?_)
  rw [hset, hu', hus] at g1 g2
  exact ⟨g1, g2, g3⟩
theorem g_iald (C : MC own cc nL rt G A p s m args meth c) (h : HP G A s us H locs) (i j : Nat) (hu : us[i]? = some u) {a n : Nat} {f : Nat → Int32} (hc : u[j]? = some (a, .inl (G.2.1 0, n, .inl f))) {x : Int32} (hin : vp_in x n) (hdg : decode cc pc = .ok (.iaload, 1))
    (kk : W p l e R s m args below meth c H locs cells slots Q (F0 m (pc + 1) ls (.int (f x.toNatClampNeg) :: rest))) : W p l e R s m args below meth c H locs cells slots Q (F0 m pc ls (.int x :: .ref a :: rest)) := by
  obtain ⟨q0, hq, -⟩ := fl_at us i j u _ hu hc
  exact va_iald C.hx C.hb C.hK h.1 q0 0 hq rfl hin hdg kk
theorem g_iast (C : MC own cc nL rt G A p s m args meth c) (h : HP G A s us H locs) (i j : Nat) (hu : us[i]? = some u) {a n : Nat} {f : Nat → Int32} (hc : u[j]? = some (a, .inl (G.2.1 0, n, .inl f))) {x y : Int32} (hin : vp_in x n) (hdg : decode cc pc = .ok (.iastore, 1)) (hu' : u.set j (a, .inl (G.2.1 0, n, .inl (upd f x.toNatClampNeg y))) = u') (hus : us.set i u' = us')
    (kk : ∀ (H1 : Heap) (locs1 : List Loc), HP G A s us' H1 locs1 → W p l e R s m args below meth c H1 locs1 cells slots Q (F0 m (pc + 1) ls rest)) : W p l e R s m args below meth c H locs cells slots Q (F0 m pc ls (.int y :: .int x :: .ref a :: rest)) := by
  obtain ⟨q0, hq, hset⟩ := fl_at us i j u _ hu hc
  refine va_iast C.hx C.hb C.hK h.1 h.2.1 h.2.2 q0 0 hq rfl hin hdg (fun H1 locs1 g1 g2 g3 => kk H1 locs1 ?_)
  rw [hset, hu', hus] at g1 g2
  exact ⟨g1, g2, g3⟩
theorem g_zald (C : MC own cc nL rt G A p s m args meth c) (h : HP G A s us H locs) (i j : Nat) (hu : us[i]? = some u) {a n : Nat} {f : Nat → Int32} (hc : u[j]? = some (a, .inl (G.2.1 1, n, .inl f))) {x : Int32} (hin : vp_in x n) (hdg : decode cc pc = .ok (.baload, 1))
    (kk : W p l e R s m args below meth c H locs cells slots Q (F0 m (pc + 1) ls (.int (f x.toNatClampNeg) :: rest))) : W p l e R s m args below meth c H locs cells slots Q (F0 m pc ls (.int x :: .ref a :: rest)) := by
  obtain ⟨q0, hq, -⟩ := fl_at us i j u _ hu hc
  exact va_zald C.hx C.hb C.hK h.1 q0 1 hq rfl hin hdg kk
theorem g_ret_i (C : MC own cc nL (some .int) G A p s m args meth c) (h : HP G A s us H locs) {x r : Int32} (hr : x = r) (hus : us = us') (hdg : decode cc pc = .ok (.ireturn, 1)) : W p l e R s m args below meth c H locs 0 0 (QI below G A args s r us') (F0 m pc ls [.int x]) := by
  subst hr; subst hus
  exact W.iret C.hx C.hb C.hr (fun t ht _ => ⟨⟨x, (), rfl, rfl, at_H ht h.1⟩, h.2.2.F ht⟩) h.2.2.2.2 hdg C.hk
theorem g_ret_z (C : MC own cc nL (some .boolean) G A p s m args meth c) (h : HP G A s us H locs) {b : Bool} {x r : Int32} (hb : x = b2i b) (hr : x = r) (hus : us = us') (hdg : decode cc pc = .ok (.ireturn, 1)) : W p l e R s m args below meth c H locs 0 0 (QI below G A args s r us') (F0 m pc ls [.int x]) := by
  subst hr; subst hus
  exact W.zret C.hx C.hb C.hr (by rw [hb]; cases b <;> rfl) (fun t ht _ => ⟨⟨x, (), rfl, rfl, at_H ht h.1⟩, h.2.2.F ht⟩) h.2.2.2.2 hdg C.hk
theorem g_ret_l (C : MC own cc nL (some .long) G A p s m args meth c) (h : HP G A s us H locs) {x r : Int64} (hr : x = r) (hus : us = us') (hdg : decode cc pc = .ok (.lreturn, 1)) : W p l e R s m args below meth c H locs 0 0 (QL below G A args s r us') (F0 m pc ls [.long x]) := by
  subst hr; subst hus
  exact W.lret C.hx C.hb C.hr (fun t ht _ => ⟨⟨x, (), rfl, rfl, at_H ht h.1⟩, h.2.2.F ht⟩) h.2.2.2.2 hdg C.hk
theorem g_ret_v (C : MC own cc nL none G A p s m args meth c) (h : HP G A s us H locs) (hus : us = us') (hdg : decode cc pc = .ok (.return_, 1)) : W p l e R s m args below meth c H locs 0 0 (QV below G A args s us') (F0 m pc ls []) := by
  subst hus
  exact W.vret C.hx C.hb C.hr (fun t ht _ => ⟨⟨(), rfl, trivial, at_H ht h.1⟩, h.2.2.F ht⟩) h.2.2.2.2 hdg C.hk
end KROWS
end
section
/-! calls by units -/
section KCALL
variable {own : String} {cc : ByteArray} {nL : Nat} {rt : Option FieldType} {G : GG} {A : Nat → Prop} {p : Program} {l : Launch} {e : Env} {R : Room} {s : State} {m : MethodId} {args : Array Value} {below : List Frame} {meth : Method} {c : Code} {H : Heap} {locs : List Loc} {cells slots : Nat} {Q : State → Prop} {pc : Nat} {ls : Array Slot} {rest st0 : List Value} {us us2 uc uc' : List va_W} {is : List Nat} {a : Array Value}
theorem g_pre (C : MC own cc nL rt G A p s m args meth c) (h : HP G A s us H locs) (hn : va_nd is = true) (hC : is.map (fun i => us[i]?) = uc.map some) {av : List Value} : ∀ U : State, U.heap = H → s.WarmedH U.vm → va_Pc av (CP G uc H.size) av.toArray U := by
  intro U hU hW
  refine ⟨rfl, by rw [hU], at_H hU (h.1.us hC), C.ev.warm hW, ?_, (h.2.1.us hn hC).weaken (fun _ _ _ _ => trivial)⟩
  rw [hU]
  exact C.sx.to h.2.2 (us_free h.2.1 h.2.2 C.hA hC) hW.alike
theorem g_next (C : MC own cc nL rt G A p s m args meth c) (h : HP G A s us H locs) (hn : va_nd is = true) (hC : is.map (fun i => us[i]?) = uc.map some) (hm : fsts uc' = fsts uc) (hus : rpU us is uc' = us2) {t : State} {H1 : Heap} {locs1 : List Loc} (ht : t.heap = H1) (hB : va_P G.1 vwCl uc'.flatten t.heap) (hk : ∀ q : Nat, q < H.size → ¬ va_A uc.flatten H.size q → H1[q]? = H[q]?) (hS : va_S A s.heap H1 locs1) : HP G A s us2 H1 locs1 := by
  subst hus
  have hj := us_join h.1 h.2.1 hn hC hm hk (by rw [← ht]; exact hB)
  exact ⟨hj.1, hj.2, hS⟩
theorem g_goI (C : MC own cc nL rt G A p s m args meth c) (h : HP G A s us H locs) {r : Int32} (hm : fsts uc' = fsts uc) (hn : va_nd is = true) (hC : is.map (fun i => us[i]?) = uc.map some) (hrun : va_Run p l e R s m args below meth c H locs cells slots 0 0 (F0 m pc ls st0) rest (va_Qi (fun x (_ : Unit) => x = r) (fun _ t => va_P G.1 vwCl uc'.flatten t.heap) (va_A uc.flatten H.size) a) (va_A uc.flatten H.size)) (hus : rpU us is uc' = us2)
    (kk : ∀ (H1 : Heap) (locs1 : List Loc), HP G A s us2 H1 locs1 → W p l e R s m args below meth c H1 locs1 cells slots Q (F0 m (pc + 3) ls (.int r :: rest))) : W p l e R s m args below meth c H locs cells slots Q (F0 m pc ls st0) := by
  refine va_calli hrun h.2.2 (fun q _ hq => us_free h.2.1 h.2.2 C.hA hC q hq) (us_free h.2.1 h.2.2 C.hA hC) (fun x u t H1 locs1 ht hvm hp hB hz hk hS => ?_)
  subst hp
  exact kk H1 locs1 (g_next C h hn hC hm hus ht hB hk hS)
theorem g_goL (C : MC own cc nL rt G A p s m args meth c) (h : HP G A s us H locs) {r : Int64} (hm : fsts uc' = fsts uc) (hn : va_nd is = true) (hC : is.map (fun i => us[i]?) = uc.map some) (hrun : va_Run p l e R s m args below meth c H locs cells slots 0 0 (F0 m pc ls st0) rest (va_Ql (fun x (_ : Unit) => x = r) (fun _ t => va_P G.1 vwCl uc'.flatten t.heap) (va_A uc.flatten H.size) a) (va_A uc.flatten H.size)) (hus : rpU us is uc' = us2)
    (kk : ∀ (H1 : Heap) (locs1 : List Loc), HP G A s us2 H1 locs1 → W p l e R s m args below meth c H1 locs1 cells slots Q (F0 m (pc + 3) ls (.long r :: rest))) : W p l e R s m args below meth c H locs cells slots Q (F0 m pc ls st0) := by
  refine va_calll hrun h.2.2 (fun q _ hq => us_free h.2.1 h.2.2 C.hA hC q hq) (us_free h.2.1 h.2.2 C.hA hC) (fun x u t H1 locs1 ht hvm hp hB hz hk hS => ?_)
  subst hp
  exact kk H1 locs1 (g_next C h hn hC hm hus ht hB hk hS)
theorem g_goV (C : MC own cc nL rt G A p s m args meth c) (h : HP G A s us H locs) (hm : fsts uc' = fsts uc) (hn : va_nd is = true) (hC : is.map (fun i => us[i]?) = uc.map some) (hrun : va_Run p l e R s m args below meth c H locs cells slots 0 0 (F0 m pc ls st0) rest (va_Qv (fun (_ : Unit) => True) (fun _ t => va_P G.1 vwCl uc'.flatten t.heap) (va_A uc.flatten H.size) a) (va_A uc.flatten H.size)) (hus : rpU us is uc' = us2)
    (kk : ∀ (H1 : Heap) (locs1 : List Loc), HP G A s us2 H1 locs1 → W p l e R s m args below meth c H1 locs1 cells slots Q (F0 m (pc + 3) ls rest)) : W p l e R s m args below meth c H locs cells slots Q (F0 m pc ls st0) := by
  refine va_callv hrun h.2.2 (fun q _ hq => us_free h.2.1 h.2.2 C.hA hC q hq) (us_free h.2.1 h.2.2 C.hA hC) (fun u t H1 locs1 ht hvm hp hB hz hk hS => ?_)
  exact kk H1 locs1 (g_next C h hn hC hm hus ht hB hk hS)
theorem g_goR (C : MC own cc nL rt G A p s m args meth c) (h : HP G A s us H locs) {r : Nat} (hm : fsts uc' = fsts uc) (hn : va_nd is = true) (hC : is.map (fun i => us[i]?) = uc.map some) (hrun : va_Run p l e R s m args below meth c H locs cells slots 0 0 (F0 m pc ls st0) rest (va_Qr (fun (_ : Unit) => True) (fun _ a t => a = r ∧ va_P G.1 vwCl uc'.flatten t.heap) (va_A uc.flatten H.size) a) (va_A uc.flatten H.size)) (hus : rpU us is uc' = us2)
    (kk : ∀ (H1 : Heap) (locs1 : List Loc), HP G A s us2 H1 locs1 → W p l e R s m args below meth c H1 locs1 cells slots Q (F0 m (pc + 3) ls (.ref r :: rest))) : W p l e R s m args below meth c H locs cells slots Q (F0 m pc ls st0) := by
  refine va_callr hrun h.2.2 (fun q _ hq => us_free h.2.1 h.2.2 C.hA hC q hq) (us_free h.2.1 h.2.2 C.hA hC) (fun u ra t H1 locs1 ht hvm hp hB hz hk hS => ?_)
  obtain ⟨rfl, hB⟩ := hB
  exact kk H1 locs1 (g_next C h hn hC hm hus ht hB hk hS)
/-- what the tables say of a call: virtual, static in its own class, static of a nest mate, super -/
def VF (own : String) (index : Nat) (ci : Nat) (y : MethodName) (bytes : ByteArray) (maxL : Nat) (ret : Option FieldType) (n : Nat) : Prop := ∃ (T : u_T) (N : Nat), vwCl[ci]? = some (y.cls, T, N) ∧ (y.cls ≠ "java/lang/invoke/MethodHandle" ∧ y.cls ≠ "java/lang/invoke/VarHandle" ∧ (parseMethodDescriptor y.desc).map (fun d => d.parameters.length) = some n) ∧ GoodIn gt (wsV own index y.cls y (wdm y bytes maxL ret))
def SF (own : String) (index : Nat) (y : MethodName) (bytes : ByteArray) (maxL : Nat) (ret : Option FieldType) (n : Nat) : Prop := (y.cls = own ∧ y.cls ≠ "java/lang/invoke/MethodHandle" ∧ y.cls ≠ "java/lang/invoke/VarHandle" ∧ (parseMethodDescriptor y.desc).map (fun d => d.parameters.length) = some n) ∧ GoodIn gt (wsS own index y (wdm y bytes maxL ret))
def NF (own : String) (index : Nat) (y : MethodName) (bytes : ByteArray) (maxL : Nat) (ret : Option FieldType) (n : Nat) : Prop := (own, index, y, "OneBell") ∈ nestL ∧ Cond.static y ∈ gt ∧ Cond.initialized y.cls ∈ gt ∧ (y.cls ≠ "java/lang/invoke/MethodHandle" ∧ y.cls ≠ "java/lang/invoke/VarHandle" ∧ (parseMethodDescriptor y.desc).map (fun d => d.parameters.length) = some n) ∧ GoodIn gt (wdm y bytes maxL ret)
variable {y : MethodName} {bytes : ByteArray} {maxL index n ci d dd b : Nat} {ret : Option FieldType} {As : List Value} {Qc : Array Value → State → Outcome → State → Prop} {free : Addr → Prop}
theorem g_runV (C : MC own cc nL rt G A p s m args meth c) (h : HP G A s us H locs) (hn : va_nd is = true) (hC : is.map (fun i => us[i]?) = uc.map some) (hM : Met l y (wdm y bytes maxL ret) (rmm d) (va_Pc (.ref b :: As) (CP G uc H.size)) Qc 0 0 free) (vf : VF own index ci y bytes maxL ret n) (i j : Nat) {u : va_W} (hu : us[i]? = some u) {fs : List Value} (hc : u[j]? = some (b, .inr (ci, fs))) (hsize : ls.size = nL) (hln : As.length = n) (hst : st0 = As.reverse ++ .ref b :: rest) (hW : (rest.map fun v => v.category).sum ≤ 8) (hdg : decode cc pc = .ok (.invokevirtual index, 3)) (hR : d + 1 ≤ R.frames ∧ 8 + (maxL + 11) + 60 * d ≤ R.locals) (hf : cells ≤ R.cells ∧ slots ≤ R.slots) :
    va_Run p l e R s m args below meth c H locs cells slots 0 0 (F0 m pc ls st0) rest (Qc (Value.ref b :: As).toArray) free := by
  obtain ⟨T, N, f1, f2, f3⟩ := vf
  obtain ⟨q0, hq, -⟩ := fl_at us i j u _ hu hc
  exact va_runV C.fix hM (cwV n C.hts f3 rfl rfl rfl ⟨rfl, f2⟩ hR) ⟨CP.blind, va_recv C.hK h.1 f1 hq, g_pre C h hn hC⟩ rfl hln hsize hst (lv_room hW) hdg hf
theorem g_runS (C : MC own cc nL rt G A p s m args meth c) (h : HP G A s us H locs) (hn : va_nd is = true) (hC : is.map (fun i => us[i]?) = uc.map some) (hM : Met l y (wdm y bytes maxL ret) (rmm d) (va_Pc As (CP G uc H.size)) Qc 0 0 free) (sf : SF own index y bytes maxL ret n) (hsize : ls.size = nL) (hln : As.length = n) (hst : st0 = As.reverse ++ rest) (hW : (rest.map fun v => v.category).sum ≤ 8) (hdg : decode cc pc = .ok (.invokestatic index, 3)) (hR : d + 1 ≤ R.frames ∧ 8 + (maxL + 11) + 60 * d ≤ R.locals) (hf : cells ≤ R.cells ∧ slots ≤ R.slots) :
    va_Run p l e R s m args below meth c H locs cells slots 0 0 (F0 m pc ls st0) rest (Qc As.toArray) free :=
  va_runS C.fix hM (cwS n C.hts sf.2 rfl rfl rfl sf.1 hR) ⟨CP.blind, g_pre C h hn hC⟩ rfl hln hsize hst (lv_room hW) hdg hf
theorem g_runN (C : MC own cc nL rt G A p s m args meth c) (h : HP G A s us H locs) (hn : va_nd is = true) (hC : is.map (fun i => us[i]?) = uc.map some) (hM : Met l y (wdm y bytes maxL ret) (rmm d) (va_Pc As (CP G uc H.size)) Qc 0 0 free) (nf : NF own index y bytes maxL ret n) (hsize : ls.size = nL) (hln : As.length = n) (hst : st0 = As.reverse ++ rest) (hW : (rest.map fun v => v.category).sum ≤ 8) (hdg : decode cc pc = .ok (.invokestatic index, 3)) (hR : d + 1 ≤ R.frames ∧ 8 + (maxL + 11) + 60 * d ≤ R.locals) (hf : cells ≤ R.cells ∧ slots ≤ R.slots) :
    va_Run p l e R s m args below meth c H locs cells slots 0 0 (F0 m pc ls st0) rest (Qc As.toArray) free :=
  va_runSN C.fix hM ⟨va_cnB n C.hts nf.2.2.2.2 rfl rfl rfl (C.ev.2.1 _ nf.1) (C.hts _ nf.2.2.1) nf.2.2.2.1 hR, C.hts _ nf.2.1, trivial⟩ ⟨CP.blind, g_pre C h hn hC⟩ rfl hln hsize hst (lv_room hW) hdg hf
end KCALL
theorem VF.mk {own : String} {index ci : Nat} {y : MethodName} {bytes : ByteArray} {maxL : Nat} {ret : Option FieldType} {n : Nat} {T : u_T} {N : Nat} (h0 : vwCl[ci]? = some (y.cls, T, N)) (hd : y.cls ≠ "java/lang/invoke/MethodHandle" ∧ y.cls ≠ "java/lang/invoke/VarHandle" ∧ (parseMethodDescriptor y.desc).map (fun d => d.parameters.length) = some n) (h1 : Cond.methodLink own index y ∈ gt) (h2 : Cond.instanceMethod y ∈ gt) (h3 : Cond.selects y.cls y y ∈ gt) (h4 : Cond.initialized y.cls ∈ gt) (h5 : Cond.code y bytes maxL ret ∈ gt) : VF own index ci y bytes maxL ret n :=
  ⟨T, N, h0, hd, goodIn_gtA (fun z hz => by
    simp only [List.mem_cons, List.not_mem_nil, or_false] at hz
    rcases hz with rfl | rfl | rfl | rfl <;> assumption) h5⟩
theorem SF.mk {own : String} {index : Nat} {y : MethodName} {bytes : ByteArray} {maxL : Nat} {ret : Option FieldType} {n : Nat} (hd : y.cls = own ∧ y.cls ≠ "java/lang/invoke/MethodHandle" ∧ y.cls ≠ "java/lang/invoke/VarHandle" ∧ (parseMethodDescriptor y.desc).map (fun d => d.parameters.length) = some n) (h1 : Cond.methodLink own index y ∈ gt) (h2 : Cond.static y ∈ gt) (h4 : Cond.initialized own ∈ gt) (h5 : Cond.code y bytes maxL ret ∈ gt) : SF own index y bytes maxL ret n :=
  ⟨hd, goodIn_gtA (fun z hz => by
    simp only [List.mem_cons, List.not_mem_nil, or_false] at hz
    rcases hz with rfl | rfl | rfl <;> assumption) h5⟩
end
