-- ===== PART A: goes FIRST, ahead of the names: the tables' words, and 'selects' of the private methods out of them =====
/-- a private method of a class that the tables say can be made, by its rows of tables_1 -/
def lw_okq (q : MethodName × Nat) : Prop := (q.1.cls ≠ "java/lang/invoke/MethodHandle" ∧ q.1.cls ≠ "java/lang/invoke/VarHandle") ∧ Cond.instantiable q.1.cls q.2 ∈ tables_1 ∧ Cond.privateMethod q.1 ∈ tables_1 ∧ Cond.instanceMethod q.1 ∈ tables_1
theorem lw_p0 : lw_okq (⟨"QueenBelt$Words", "take", "(I)V"⟩, 8) := ⟨⟨by decide +kernel, by decide +kernel⟩, List.mem_of_getElem? (i := 47) (by decide +kernel), List.mem_of_getElem? (i := 407) (by decide +kernel), List.mem_of_getElem? (i := 408) (by decide +kernel)⟩
theorem lw_p1 : lw_okq (⟨"QueenBelt$LoomText", "readColour", "()Z"⟩, 3) := ⟨⟨by decide +kernel, by decide +kernel⟩, List.mem_of_getElem? (i := 154) (by decide +kernel), List.mem_of_getElem? (i := 472) (by decide +kernel), List.mem_of_getElem? (i := 473) (by decide +kernel)⟩
theorem lw_p2 : lw_okq (⟨"QueenBelt$LoomText", "newName", "()I"⟩, 3) := ⟨⟨by decide +kernel, by decide +kernel⟩, List.mem_of_getElem? (i := 154) (by decide +kernel), List.mem_of_getElem? (i := 477) (by decide +kernel), List.mem_of_getElem? (i := 478) (by decide +kernel)⟩
theorem lw_p3 : lw_okq (⟨"QueenBelt$Words", "isOwnWord", "()Z"⟩, 8) := ⟨⟨by decide +kernel, by decide +kernel⟩, List.mem_of_getElem? (i := 47) (by decide +kernel), List.mem_of_getElem? (i := 485) (by decide +kernel), List.mem_of_getElem? (i := 486) (by decide +kernel)⟩
theorem lw_p4 : lw_okq (⟨"QueenBelt$LoomText", "readCard", "()Z"⟩, 3) := ⟨⟨by decide +kernel, by decide +kernel⟩, List.mem_of_getElem? (i := 154) (by decide +kernel), List.mem_of_getElem? (i := 507) (by decide +kernel), List.mem_of_getElem? (i := 508) (by decide +kernel)⟩
theorem lw_p5 : lw_okq (⟨"QueenBelt$LoomText", "knownName", "([II)I"⟩, 3) := ⟨⟨by decide +kernel, by decide +kernel⟩, List.mem_of_getElem? (i := 154) (by decide +kernel), List.mem_of_getElem? (i := 519) (by decide +kernel), List.mem_of_getElem? (i := 520) (by decide +kernel)⟩
theorem lw_p6 : lw_okq (⟨"QueenBelt$LoomText", "readPack", "()Z"⟩, 3) := ⟨⟨by decide +kernel, by decide +kernel⟩, List.mem_of_getElem? (i := 154) (by decide +kernel), List.mem_of_getElem? (i := 525) (by decide +kernel), List.mem_of_getElem? (i := 526) (by decide +kernel)⟩
theorem lw_p7 : lw_okq (⟨"QueenBelt$LoomText", "readPackCard", "(I)Z"⟩, 3) := ⟨⟨by decide +kernel, by decide +kernel⟩, List.mem_of_getElem? (i := 154) (by decide +kernel), List.mem_of_getElem? (i := 529) (by decide +kernel), List.mem_of_getElem? (i := 530) (by decide +kernel)⟩
theorem lw_p8 : lw_okq (⟨"QueenBelt$LoomText", "readTwist", "()Z"⟩, 3) := ⟨⟨by decide +kernel, by decide +kernel⟩, List.mem_of_getElem? (i := 154) (by decide +kernel), List.mem_of_getElem? (i := 548) (by decide +kernel), List.mem_of_getElem? (i := 549) (by decide +kernel)⟩
theorem lw_p9 : lw_okq (⟨"QueenBelt$LoomText", "readWeave", "()Z"⟩, 3) := ⟨⟨by decide +kernel, by decide +kernel⟩, List.mem_of_getElem? (i := 154) (by decide +kernel), List.mem_of_getElem? (i := 557) (by decide +kernel), List.mem_of_getElem? (i := 558) (by decide +kernel)⟩
theorem lw_p10 : lw_okq (⟨"QueenBelt$LoomText", "beginsTurn", "()Z"⟩, 3) := ⟨⟨by decide +kernel, by decide +kernel⟩, List.mem_of_getElem? (i := 154) (by decide +kernel), List.mem_of_getElem? (i := 561) (by decide +kernel), List.mem_of_getElem? (i := 562) (by decide +kernel)⟩
theorem lw_p11 : lw_okq (⟨"QueenBelt$LoomText", "readTurn", "(I)Z"⟩, 3) := ⟨⟨by decide +kernel, by decide +kernel⟩, List.mem_of_getElem? (i := 154) (by decide +kernel), List.mem_of_getElem? (i := 573) (by decide +kernel), List.mem_of_getElem? (i := 574) (by decide +kernel)⟩
theorem lw_p12 : lw_okq (⟨"QueenBelt$LoomText", "readLetter", "()Z"⟩, 3) := ⟨⟨by decide +kernel, by decide +kernel⟩, List.mem_of_getElem? (i := 154) (by decide +kernel), List.mem_of_getElem? (i := 577) (by decide +kernel), List.mem_of_getElem? (i := 578) (by decide +kernel)⟩
theorem lw_p13 : lw_okq (⟨"QueenBelt$Belt", "comesAgain", "(I)Z"⟩, 7) := ⟨⟨by decide +kernel, by decide +kernel⟩, List.mem_of_getElem? (i := 170) (by decide +kernel), List.mem_of_getElem? (i := 654) (by decide +kernel), List.mem_of_getElem? (i := 655) (by decide +kernel)⟩
theorem lw_p14 : lw_okq (⟨"QueenBelt$Acts", "forgetOldest", "()V"⟩, 4) := ⟨⟨by decide +kernel, by decide +kernel⟩, List.mem_of_getElem? (i := 210) (by decide +kernel), List.mem_of_getElem? (i := 750) (by decide +kernel), List.mem_of_getElem? (i := 751) (by decide +kernel)⟩
theorem lw_p15 : lw_okq (⟨"QueenBelt$Ways", "count", "(IIZ)I"⟩, 8) := ⟨⟨by decide +kernel, by decide +kernel⟩, List.mem_of_getElem? (i := 245) (by decide +kernel), List.mem_of_getElem? (i := 813) (by decide +kernel), List.mem_of_getElem? (i := 814) (by decide +kernel)⟩
def lw_privs_1 : List (MethodName × Nat) := [(⟨"QueenBelt$Words", "take", "(I)V"⟩, 8), (⟨"QueenBelt$LoomText", "readColour", "()Z"⟩, 3), (⟨"QueenBelt$LoomText", "newName", "()I"⟩, 3), (⟨"QueenBelt$Words", "isOwnWord", "()Z"⟩, 8), (⟨"QueenBelt$LoomText", "readCard", "()Z"⟩, 3), (⟨"QueenBelt$LoomText", "knownName", "([II)I"⟩, 3), (⟨"QueenBelt$LoomText", "readPack", "()Z"⟩, 3), (⟨"QueenBelt$LoomText", "readPackCard", "(I)Z"⟩, 3), (⟨"QueenBelt$LoomText", "readTwist", "()Z"⟩, 3), (⟨"QueenBelt$LoomText", "readWeave", "()Z"⟩, 3), (⟨"QueenBelt$LoomText", "beginsTurn", "()Z"⟩, 3), (⟨"QueenBelt$LoomText", "readTurn", "(I)Z"⟩, 3), (⟨"QueenBelt$LoomText", "readLetter", "()Z"⟩, 3), (⟨"QueenBelt$Belt", "comesAgain", "(I)Z"⟩, 7), (⟨"QueenBelt$Acts", "forgetOldest", "()V"⟩, 4), (⟨"QueenBelt$Ways", "count", "(IIZ)I"⟩, 8)]
theorem lw_r1 : ∀ q ∈ lw_privs_1, lw_okq q := List.forall_mem_cons.mpr ⟨lw_p0, List.forall_mem_cons.mpr ⟨lw_p1, List.forall_mem_cons.mpr ⟨lw_p2, List.forall_mem_cons.mpr ⟨lw_p3, List.forall_mem_cons.mpr ⟨lw_p4, List.forall_mem_cons.mpr ⟨lw_p5, List.forall_mem_cons.mpr ⟨lw_p6, List.forall_mem_cons.mpr ⟨lw_p7, List.forall_mem_cons.mpr ⟨lw_p8, List.forall_mem_cons.mpr ⟨lw_p9, List.forall_mem_cons.mpr ⟨lw_p10, List.forall_mem_cons.mpr ⟨lw_p11, List.forall_mem_cons.mpr ⟨lw_p12, List.forall_mem_cons.mpr ⟨lw_p13, List.forall_mem_cons.mpr ⟨lw_p14, List.forall_mem_cons.mpr ⟨lw_p15, fun _ h => absurd h List.not_mem_nil⟩⟩⟩⟩⟩⟩⟩⟩⟩⟩⟩⟩⟩⟩⟩⟩
theorem lw_p16 : lw_okq (⟨"QueenBelt$Ways", "countRow", "(IIIZ)Z"⟩, 8) := ⟨⟨by decide +kernel, by decide +kernel⟩, List.mem_of_getElem? (i := 245) (by decide +kernel), List.mem_of_getElem? (i := 819) (by decide +kernel), List.mem_of_getElem? (i := 820) (by decide +kernel)⟩
theorem lw_p17 : lw_okq (⟨"QueenBelt$Ways", "inReach", "(I)Z"⟩, 8) := ⟨⟨by decide +kernel, by decide +kernel⟩, List.mem_of_getElem? (i := 245) (by decide +kernel), List.mem_of_getElem? (i := 823) (by decide +kernel), List.mem_of_getElem? (i := 824) (by decide +kernel)⟩
theorem lw_p18 : lw_okq (⟨"QueenBelt$Ways", "shows", "(IIIZ)Z"⟩, 8) := ⟨⟨by decide +kernel, by decide +kernel⟩, List.mem_of_getElem? (i := 245) (by decide +kernel), List.mem_of_getElem? (i := 827) (by decide +kernel), List.mem_of_getElem? (i := 828) (by decide +kernel)⟩
theorem lw_p19 : lw_okq (⟨"QueenBelt$Ways", "mayTurn", "(II)Z"⟩, 8) := ⟨⟨by decide +kernel, by decide +kernel⟩, List.mem_of_getElem? (i := 245) (by decide +kernel), List.mem_of_getElem? (i := 837) (by decide +kernel), List.mem_of_getElem? (i := 838) (by decide +kernel)⟩
theorem lw_p20 : lw_okq (⟨"QueenBelt$Ways", "patternsOf", "(II)J"⟩, 8) := ⟨⟨by decide +kernel, by decide +kernel⟩, List.mem_of_getElem? (i := 245) (by decide +kernel), List.mem_of_getElem? (i := 876) (by decide +kernel), List.mem_of_getElem? (i := 877) (by decide +kernel)⟩
theorem lw_p21 : lw_okq (⟨"QueenBelt$Ways", "isWay", "(III)Z"⟩, 8) := ⟨⟨by decide +kernel, by decide +kernel⟩, List.mem_of_getElem? (i := 245) (by decide +kernel), List.mem_of_getElem? (i := 880) (by decide +kernel), List.mem_of_getElem? (i := 881) (by decide +kernel)⟩
theorem lw_p22 : lw_okq (⟨"QueenBelt$Ways", "putPattern", "(IJ)V"⟩, 8) := ⟨⟨by decide +kernel, by decide +kernel⟩, List.mem_of_getElem? (i := 245) (by decide +kernel), List.mem_of_getElem? (i := 884) (by decide +kernel), List.mem_of_getElem? (i := 885) (by decide +kernel)⟩
theorem lw_p23 : lw_okq (⟨"QueenBelt$Ways", "agree", "(II)Z"⟩, 8) := ⟨⟨by decide +kernel, by decide +kernel⟩, List.mem_of_getElem? (i := 245) (by decide +kernel), List.mem_of_getElem? (i := 894) (by decide +kernel), List.mem_of_getElem? (i := 895) (by decide +kernel)⟩
theorem lw_p24 : lw_okq (⟨"QueenBelt$Ways", "patternOf", "(I)J"⟩, 8) := ⟨⟨by decide +kernel, by decide +kernel⟩, List.mem_of_getElem? (i := 245) (by decide +kernel), List.mem_of_getElem? (i := 899) (by decide +kernel), List.mem_of_getElem? (i := 900) (by decide +kernel)⟩
theorem lw_p25 : lw_okq (⟨"QueenBelt$Ways", "rightWith", "(III)I"⟩, 8) := ⟨⟨by decide +kernel, by decide +kernel⟩, List.mem_of_getElem? (i := 245) (by decide +kernel), List.mem_of_getElem? (i := 915) (by decide +kernel), List.mem_of_getElem? (i := 916) (by decide +kernel)⟩
theorem lw_p26 : lw_okq (⟨"QueenBelt$Strip", "cardFits", "(LQueenBelt$Belt;I)Z"⟩, 2) := ⟨⟨by decide +kernel, by decide +kernel⟩, List.mem_of_getElem? (i := 230) (by decide +kernel), List.mem_of_getElem? (i := 931) (by decide +kernel), List.mem_of_getElem? (i := 932) (by decide +kernel)⟩
theorem lw_p27 : lw_okq (⟨"QueenBelt$Question", "readTest", "(I)Z"⟩, 8) := ⟨⟨by decide +kernel, by decide +kernel⟩, List.mem_of_getElem? (i := 277) (by decide +kernel), List.mem_of_getElem? (i := 978) (by decide +kernel), List.mem_of_getElem? (i := 979) (by decide +kernel)⟩
theorem lw_p28 : lw_okq (⟨"QueenBelt$Question", "readBoth", "(I)Z"⟩, 8) := ⟨⟨by decide +kernel, by decide +kernel⟩, List.mem_of_getElem? (i := 277) (by decide +kernel), List.mem_of_getElem? (i := 982) (by decide +kernel), List.mem_of_getElem? (i := 983) (by decide +kernel)⟩
theorem lw_p29 : lw_okq (⟨"QueenBelt$Question", "readFact", "(I)Z"⟩, 8) := ⟨⟨by decide +kernel, by decide +kernel⟩, List.mem_of_getElem? (i := 277) (by decide +kernel), List.mem_of_getElem? (i := 986) (by decide +kernel), List.mem_of_getElem? (i := 987) (by decide +kernel)⟩
theorem lw_p30 : lw_okq (⟨"QueenBelt$Question", "stepAndAdd", "(II)Z"⟩, 8) := ⟨⟨by decide +kernel, by decide +kernel⟩, List.mem_of_getElem? (i := 277) (by decide +kernel), List.mem_of_getElem? (i := 991) (by decide +kernel), List.mem_of_getElem? (i := 992) (by decide +kernel)⟩
theorem lw_p31 : lw_okq (⟨"QueenBelt$Question", "add", "(II)Z"⟩, 8) := ⟨⟨by decide +kernel, by decide +kernel⟩, List.mem_of_getElem? (i := 277) (by decide +kernel), List.mem_of_getElem? (i := 995) (by decide +kernel), List.mem_of_getElem? (i := 996) (by decide +kernel)⟩
def lw_privs_2 : List (MethodName × Nat) := [(⟨"QueenBelt$Ways", "countRow", "(IIIZ)Z"⟩, 8), (⟨"QueenBelt$Ways", "inReach", "(I)Z"⟩, 8), (⟨"QueenBelt$Ways", "shows", "(IIIZ)Z"⟩, 8), (⟨"QueenBelt$Ways", "mayTurn", "(II)Z"⟩, 8), (⟨"QueenBelt$Ways", "patternsOf", "(II)J"⟩, 8), (⟨"QueenBelt$Ways", "isWay", "(III)Z"⟩, 8), (⟨"QueenBelt$Ways", "putPattern", "(IJ)V"⟩, 8), (⟨"QueenBelt$Ways", "agree", "(II)Z"⟩, 8), (⟨"QueenBelt$Ways", "patternOf", "(I)J"⟩, 8), (⟨"QueenBelt$Ways", "rightWith", "(III)I"⟩, 8), (⟨"QueenBelt$Strip", "cardFits", "(LQueenBelt$Belt;I)Z"⟩, 2), (⟨"QueenBelt$Question", "readTest", "(I)Z"⟩, 8), (⟨"QueenBelt$Question", "readBoth", "(I)Z"⟩, 8), (⟨"QueenBelt$Question", "readFact", "(I)Z"⟩, 8), (⟨"QueenBelt$Question", "stepAndAdd", "(II)Z"⟩, 8), (⟨"QueenBelt$Question", "add", "(II)Z"⟩, 8)]
theorem lw_r2 : ∀ q ∈ lw_privs_2, lw_okq q := List.forall_mem_cons.mpr ⟨lw_p16, List.forall_mem_cons.mpr ⟨lw_p17, List.forall_mem_cons.mpr ⟨lw_p18, List.forall_mem_cons.mpr ⟨lw_p19, List.forall_mem_cons.mpr ⟨lw_p20, List.forall_mem_cons.mpr ⟨lw_p21, List.forall_mem_cons.mpr ⟨lw_p22, List.forall_mem_cons.mpr ⟨lw_p23, List.forall_mem_cons.mpr ⟨lw_p24, List.forall_mem_cons.mpr ⟨lw_p25, List.forall_mem_cons.mpr ⟨lw_p26, List.forall_mem_cons.mpr ⟨lw_p27, List.forall_mem_cons.mpr ⟨lw_p28, List.forall_mem_cons.mpr ⟨lw_p29, List.forall_mem_cons.mpr ⟨lw_p30, List.forall_mem_cons.mpr ⟨lw_p31, fun _ h => absurd h List.not_mem_nil⟩⟩⟩⟩⟩⟩⟩⟩⟩⟩⟩⟩⟩⟩⟩⟩
theorem lw_p32 : lw_okq (⟨"QueenBelt$Question", "readCompared", "(I)Z"⟩, 8) := ⟨⟨by decide +kernel, by decide +kernel⟩, List.mem_of_getElem? (i := 277) (by decide +kernel), List.mem_of_getElem? (i := 1002) (by decide +kernel), List.mem_of_getElem? (i := 1003) (by decide +kernel)⟩
theorem lw_p33 : lw_okq (⟨"QueenBelt$Question", "readSum", "(I)Z"⟩, 8) := ⟨⟨by decide +kernel, by decide +kernel⟩, List.mem_of_getElem? (i := 277) (by decide +kernel), List.mem_of_getElem? (i := 1006) (by decide +kernel), List.mem_of_getElem? (i := 1007) (by decide +kernel)⟩
theorem lw_p34 : lw_okq (⟨"QueenBelt$Question", "readProduct", "(I)Z"⟩, 8) := ⟨⟨by decide +kernel, by decide +kernel⟩, List.mem_of_getElem? (i := 277) (by decide +kernel), List.mem_of_getElem? (i := 1010) (by decide +kernel), List.mem_of_getElem? (i := 1011) (by decide +kernel)⟩
theorem lw_p35 : lw_okq (⟨"QueenBelt$Question", "readPart", "(I)Z"⟩, 8) := ⟨⟨by decide +kernel, by decide +kernel⟩, List.mem_of_getElem? (i := 277) (by decide +kernel), List.mem_of_getElem? (i := 1014) (by decide +kernel), List.mem_of_getElem? (i := 1015) (by decide +kernel)⟩
theorem lw_p36 : lw_okq (⟨"QueenBelt$Question", "readPair", "(I)Z"⟩, 8) := ⟨⟨by decide +kernel, by decide +kernel⟩, List.mem_of_getElem? (i := 277) (by decide +kernel), List.mem_of_getElem? (i := 1028) (by decide +kernel), List.mem_of_getElem? (i := 1029) (by decide +kernel)⟩
theorem lw_p37 : lw_okq (⟨"QueenBelt$Question", "mayOpen", "(I)Z"⟩, 8) := ⟨⟨by decide +kernel, by decide +kernel⟩, List.mem_of_getElem? (i := 277) (by decide +kernel), List.mem_of_getElem? (i := 1032) (by decide +kernel), List.mem_of_getElem? (i := 1033) (by decide +kernel)⟩
theorem lw_p38 : lw_okq (⟨"QueenBelt$Question", "valueIn", "(I)J"⟩, 8) := ⟨⟨by decide +kernel, by decide +kernel⟩, List.mem_of_getElem? (i := 277) (by decide +kernel), List.mem_of_getElem? (i := 1049) (by decide +kernel), List.mem_of_getElem? (i := 1050) (by decide +kernel)⟩
theorem lw_p39 : lw_okq (⟨"QueenBelt$Question", "push", "(J)V"⟩, 8) := ⟨⟨by decide +kernel, by decide +kernel⟩, List.mem_of_getElem? (i := 277) (by decide +kernel), List.mem_of_getElem? (i := 1054) (by decide +kernel), List.mem_of_getElem? (i := 1055) (by decide +kernel)⟩
theorem lw_p40 : lw_okq (⟨"QueenBelt$Question", "ofRow", "(II)J"⟩, 8) := ⟨⟨by decide +kernel, by decide +kernel⟩, List.mem_of_getElem? (i := 277) (by decide +kernel), List.mem_of_getElem? (i := 1058) (by decide +kernel), List.mem_of_getElem? (i := 1059) (by decide +kernel)⟩
theorem lw_p41 : lw_okq (⟨"QueenBelt$Question", "pop", "()J"⟩, 8) := ⟨⟨by decide +kernel, by decide +kernel⟩, List.mem_of_getElem? (i := 277) (by decide +kernel), List.mem_of_getElem? (i := 1066) (by decide +kernel), List.mem_of_getElem? (i := 1067) (by decide +kernel)⟩
theorem lw_p42 : lw_okq (⟨"QueenBelt$Question", "ofOne", "(IIJ)J"⟩, 8) := ⟨⟨by decide +kernel, by decide +kernel⟩, List.mem_of_getElem? (i := 277) (by decide +kernel), List.mem_of_getElem? (i := 1070) (by decide +kernel), List.mem_of_getElem? (i := 1071) (by decide +kernel)⟩
theorem lw_p43 : lw_okq (⟨"QueenBelt$Image", "add", "(I)V"⟩, 2) := ⟨⟨by decide +kernel, by decide +kernel⟩, List.mem_of_getElem? (i := 308) (by decide +kernel), List.mem_of_getElem? (i := 1105) (by decide +kernel), List.mem_of_getElem? (i := 1106) (by decide +kernel)⟩
theorem lw_p44 : lw_okq (⟨"QueenBeltModel", "look", "()I"⟩, 76) := ⟨⟨by decide +kernel, by decide +kernel⟩, List.mem_of_getElem? (i := 1153) (by decide +kernel), List.mem_of_getElem? (i := 1402) (by decide +kernel), List.mem_of_getElem? (i := 1403) (by decide +kernel)⟩
theorem lw_p45 : lw_okq (⟨"QueenBeltModel", "statementTold", "()V"⟩, 76) := ⟨⟨by decide +kernel, by decide +kernel⟩, List.mem_of_getElem? (i := 1153) (by decide +kernel), List.mem_of_getElem? (i := 1406) (by decide +kernel), List.mem_of_getElem? (i := 1407) (by decide +kernel)⟩
theorem lw_p46 : lw_okq (⟨"QueenBeltModel", "fail", "(II)V"⟩, 76) := ⟨⟨by decide +kernel, by decide +kernel⟩, List.mem_of_getElem? (i := 1153) (by decide +kernel), List.mem_of_getElem? (i := 1410) (by decide +kernel), List.mem_of_getElem? (i := 1411) (by decide +kernel)⟩
theorem lw_p47 : lw_okq (⟨"QueenBeltModel", "takes", "([C)Z"⟩, 76) := ⟨⟨by decide +kernel, by decide +kernel⟩, List.mem_of_getElem? (i := 1153) (by decide +kernel), List.mem_of_getElem? (i := 1414) (by decide +kernel), List.mem_of_getElem? (i := 1415) (by decide +kernel)⟩
def lw_privs_3 : List (MethodName × Nat) := [(⟨"QueenBelt$Question", "readCompared", "(I)Z"⟩, 8), (⟨"QueenBelt$Question", "readSum", "(I)Z"⟩, 8), (⟨"QueenBelt$Question", "readProduct", "(I)Z"⟩, 8), (⟨"QueenBelt$Question", "readPart", "(I)Z"⟩, 8), (⟨"QueenBelt$Question", "readPair", "(I)Z"⟩, 8), (⟨"QueenBelt$Question", "mayOpen", "(I)Z"⟩, 8), (⟨"QueenBelt$Question", "valueIn", "(I)J"⟩, 8), (⟨"QueenBelt$Question", "push", "(J)V"⟩, 8), (⟨"QueenBelt$Question", "ofRow", "(II)J"⟩, 8), (⟨"QueenBelt$Question", "pop", "()J"⟩, 8), (⟨"QueenBelt$Question", "ofOne", "(IIJ)J"⟩, 8), (⟨"QueenBelt$Image", "add", "(I)V"⟩, 2), (⟨"QueenBeltModel", "look", "()I"⟩, 76), (⟨"QueenBeltModel", "statementTold", "()V"⟩, 76), (⟨"QueenBeltModel", "fail", "(II)V"⟩, 76), (⟨"QueenBeltModel", "takes", "([C)Z"⟩, 76)]
theorem lw_r3 : ∀ q ∈ lw_privs_3, lw_okq q := List.forall_mem_cons.mpr ⟨lw_p32, List.forall_mem_cons.mpr ⟨lw_p33, List.forall_mem_cons.mpr ⟨lw_p34, List.forall_mem_cons.mpr ⟨lw_p35, List.forall_mem_cons.mpr ⟨lw_p36, List.forall_mem_cons.mpr ⟨lw_p37, List.forall_mem_cons.mpr ⟨lw_p38, List.forall_mem_cons.mpr ⟨lw_p39, List.forall_mem_cons.mpr ⟨lw_p40, List.forall_mem_cons.mpr ⟨lw_p41, List.forall_mem_cons.mpr ⟨lw_p42, List.forall_mem_cons.mpr ⟨lw_p43, List.forall_mem_cons.mpr ⟨lw_p44, List.forall_mem_cons.mpr ⟨lw_p45, List.forall_mem_cons.mpr ⟨lw_p46, List.forall_mem_cons.mpr ⟨lw_p47, fun _ h => absurd h List.not_mem_nil⟩⟩⟩⟩⟩⟩⟩⟩⟩⟩⟩⟩⟩⟩⟩⟩
theorem lw_p48 : lw_okq (⟨"QueenBeltModel", "isHere", "([C)Z"⟩, 76) := ⟨⟨by decide +kernel, by decide +kernel⟩, List.mem_of_getElem? (i := 1153) (by decide +kernel), List.mem_of_getElem? (i := 1418) (by decide +kernel), List.mem_of_getElem? (i := 1419) (by decide +kernel)⟩
theorem lw_p49 : lw_okq (⟨"QueenBeltModel", "colourTold", "(I)V"⟩, 76) := ⟨⟨by decide +kernel, by decide +kernel⟩, List.mem_of_getElem? (i := 1153) (by decide +kernel), List.mem_of_getElem? (i := 1425) (by decide +kernel), List.mem_of_getElem? (i := 1426) (by decide +kernel)⟩
theorem lw_p50 : lw_okq (⟨"QueenBeltModel", "isFull", "(III)Z"⟩, 76) := ⟨⟨by decide +kernel, by decide +kernel⟩, List.mem_of_getElem? (i := 1153) (by decide +kernel), List.mem_of_getElem? (i := 1429) (by decide +kernel), List.mem_of_getElem? (i := 1430) (by decide +kernel)⟩
theorem lw_p51 : lw_okq (⟨"QueenBeltModel", "newName", "()J"⟩, 76) := ⟨⟨by decide +kernel, by decide +kernel⟩, List.mem_of_getElem? (i := 1153) (by decide +kernel), List.mem_of_getElem? (i := 1433) (by decide +kernel), List.mem_of_getElem? (i := 1434) (by decide +kernel)⟩
theorem lw_p52 : lw_okq (⟨"QueenBeltModel", "name", "()J"⟩, 76) := ⟨⟨by decide +kernel, by decide +kernel⟩, List.mem_of_getElem? (i := 1153) (by decide +kernel), List.mem_of_getElem? (i := 1437) (by decide +kernel), List.mem_of_getElem? (i := 1438) (by decide +kernel)⟩
theorem lw_p53 : lw_okq (⟨"QueenBeltModel", "isOwnHere", "()Z"⟩, 76) := ⟨⟨by decide +kernel, by decide +kernel⟩, List.mem_of_getElem? (i := 1153) (by decide +kernel), List.mem_of_getElem? (i := 1441) (by decide +kernel), List.mem_of_getElem? (i := 1442) (by decide +kernel)⟩
theorem lw_p54 : lw_okq (⟨"QueenBeltModel", "nameOf", "(IJ)I"⟩, 76) := ⟨⟨by decide +kernel, by decide +kernel⟩, List.mem_of_getElem? (i := 1153) (by decide +kernel), List.mem_of_getElem? (i := 1447) (by decide +kernel), List.mem_of_getElem? (i := 1448) (by decide +kernel)⟩
theorem lw_p55 : lw_okq (⟨"QueenBeltModel", "cardTold", "(I)V"⟩, 76) := ⟨⟨by decide +kernel, by decide +kernel⟩, List.mem_of_getElem? (i := 1153) (by decide +kernel), List.mem_of_getElem? (i := 1451) (by decide +kernel), List.mem_of_getElem? (i := 1452) (by decide +kernel)⟩
theorem lw_p56 : lw_okq (⟨"QueenBeltModel", "asks", "([C)V"⟩, 76) := ⟨⟨by decide +kernel, by decide +kernel⟩, List.mem_of_getElem? (i := 1153) (by decide +kernel), List.mem_of_getElem? (i := 1455) (by decide +kernel), List.mem_of_getElem? (i := 1456) (by decide +kernel)⟩
theorem lw_p57 : lw_okq (⟨"QueenBeltModel", "oneOf", "(I)I"⟩, 76) := ⟨⟨by decide +kernel, by decide +kernel⟩, List.mem_of_getElem? (i := 1153) (by decide +kernel), List.mem_of_getElem? (i := 1459) (by decide +kernel), List.mem_of_getElem? (i := 1460) (by decide +kernel)⟩
theorem lw_p58 : lw_okq (⟨"QueenBeltModel", "packTold", "(I)V"⟩, 76) := ⟨⟨by decide +kernel, by decide +kernel⟩, List.mem_of_getElem? (i := 1153) (by decide +kernel), List.mem_of_getElem? (i := 1463) (by decide +kernel), List.mem_of_getElem? (i := 1464) (by decide +kernel)⟩
theorem lw_p59 : lw_okq (⟨"QueenBeltModel", "number", "(II)I"⟩, 76) := ⟨⟨by decide +kernel, by decide +kernel⟩, List.mem_of_getElem? (i := 1153) (by decide +kernel), List.mem_of_getElem? (i := 1467) (by decide +kernel), List.mem_of_getElem? (i := 1468) (by decide +kernel)⟩
theorem lw_p60 : lw_okq (⟨"QueenBeltModel", "weaveTold", "(I)V"⟩, 76) := ⟨⟨by decide +kernel, by decide +kernel⟩, List.mem_of_getElem? (i := 1153) (by decide +kernel), List.mem_of_getElem? (i := 1477) (by decide +kernel), List.mem_of_getElem? (i := 1478) (by decide +kernel)⟩
theorem lw_p61 : lw_okq (⟨"QueenBeltModel", "turnTold", "()V"⟩, 76) := ⟨⟨by decide +kernel, by decide +kernel⟩, List.mem_of_getElem? (i := 1153) (by decide +kernel), List.mem_of_getElem? (i := 1481) (by decide +kernel), List.mem_of_getElem? (i := 1482) (by decide +kernel)⟩
theorem lw_p62 : lw_okq (⟨"QueenBeltModel", "isPartTold", "()Z"⟩, 76) := ⟨⟨by decide +kernel, by decide +kernel⟩, List.mem_of_getElem? (i := 1153) (by decide +kernel), List.mem_of_getElem? (i := 1485) (by decide +kernel), List.mem_of_getElem? (i := 1486) (by decide +kernel)⟩
theorem lw_p63 : lw_okq (⟨"QueenBeltModel", "opens", "(II)V"⟩, 76) := ⟨⟨by decide +kernel, by decide +kernel⟩, List.mem_of_getElem? (i := 1153) (by decide +kernel), List.mem_of_getElem? (i := 1489) (by decide +kernel), List.mem_of_getElem? (i := 1490) (by decide +kernel)⟩
def lw_privs_4 : List (MethodName × Nat) := [(⟨"QueenBeltModel", "isHere", "([C)Z"⟩, 76), (⟨"QueenBeltModel", "colourTold", "(I)V"⟩, 76), (⟨"QueenBeltModel", "isFull", "(III)Z"⟩, 76), (⟨"QueenBeltModel", "newName", "()J"⟩, 76), (⟨"QueenBeltModel", "name", "()J"⟩, 76), (⟨"QueenBeltModel", "isOwnHere", "()Z"⟩, 76), (⟨"QueenBeltModel", "nameOf", "(IJ)I"⟩, 76), (⟨"QueenBeltModel", "cardTold", "(I)V"⟩, 76), (⟨"QueenBeltModel", "asks", "([C)V"⟩, 76), (⟨"QueenBeltModel", "oneOf", "(I)I"⟩, 76), (⟨"QueenBeltModel", "packTold", "(I)V"⟩, 76), (⟨"QueenBeltModel", "number", "(II)I"⟩, 76), (⟨"QueenBeltModel", "weaveTold", "(I)V"⟩, 76), (⟨"QueenBeltModel", "turnTold", "()V"⟩, 76), (⟨"QueenBeltModel", "isPartTold", "()Z"⟩, 76), (⟨"QueenBeltModel", "opens", "(II)V"⟩, 76)]
theorem lw_r4 : ∀ q ∈ lw_privs_4, lw_okq q := List.forall_mem_cons.mpr ⟨lw_p48, List.forall_mem_cons.mpr ⟨lw_p49, List.forall_mem_cons.mpr ⟨lw_p50, List.forall_mem_cons.mpr ⟨lw_p51, List.forall_mem_cons.mpr ⟨lw_p52, List.forall_mem_cons.mpr ⟨lw_p53, List.forall_mem_cons.mpr ⟨lw_p54, List.forall_mem_cons.mpr ⟨lw_p55, List.forall_mem_cons.mpr ⟨lw_p56, List.forall_mem_cons.mpr ⟨lw_p57, List.forall_mem_cons.mpr ⟨lw_p58, List.forall_mem_cons.mpr ⟨lw_p59, List.forall_mem_cons.mpr ⟨lw_p60, List.forall_mem_cons.mpr ⟨lw_p61, List.forall_mem_cons.mpr ⟨lw_p62, List.forall_mem_cons.mpr ⟨lw_p63, fun _ h => absurd h List.not_mem_nil⟩⟩⟩⟩⟩⟩⟩⟩⟩⟩⟩⟩⟩⟩⟩⟩
theorem lw_p64 : lw_okq (⟨"QueenBeltModel", "asksSign", "(I)V"⟩, 76) := ⟨⟨by decide +kernel, by decide +kernel⟩, List.mem_of_getElem? (i := 1153) (by decide +kernel), List.mem_of_getElem? (i := 1493) (by decide +kernel), List.mem_of_getElem? (i := 1494) (by decide +kernel)⟩
theorem lw_p65 : lw_okq (⟨"QueenBeltModel", "takesSign", "(I)Z"⟩, 76) := ⟨⟨by decide +kernel, by decide +kernel⟩, List.mem_of_getElem? (i := 1153) (by decide +kernel), List.mem_of_getElem? (i := 1497) (by decide +kernel), List.mem_of_getElem? (i := 1498) (by decide +kernel)⟩
theorem lw_p66 : lw_okq (⟨"QueenBeltModel", "isNameAhead", "()Z"⟩, 76) := ⟨⟨by decide +kernel, by decide +kernel⟩, List.mem_of_getElem? (i := 1153) (by decide +kernel), List.mem_of_getElem? (i := 1501) (by decide +kernel), List.mem_of_getElem? (i := 1502) (by decide +kernel)⟩
theorem lw_p67 : lw_okq (⟨"QueenBeltModel", "letterIs", "(II)V"⟩, 76) := ⟨⟨by decide +kernel, by decide +kernel⟩, List.mem_of_getElem? (i := 1153) (by decide +kernel), List.mem_of_getElem? (i := 1505) (by decide +kernel), List.mem_of_getElem? (i := 1506) (by decide +kernel)⟩
theorem lw_p68 : lw_okq (⟨"QueenBeltModel", "turnEnds", "()V"⟩, 76) := ⟨⟨by decide +kernel, by decide +kernel⟩, List.mem_of_getElem? (i := 1153) (by decide +kernel), List.mem_of_getElem? (i := 1509) (by decide +kernel), List.mem_of_getElem? (i := 1510) (by decide +kernel)⟩
theorem lw_p69 : lw_okq (⟨"QueenBeltModel", "isTurnAhead", "()Z"⟩, 76) := ⟨⟨by decide +kernel, by decide +kernel⟩, List.mem_of_getElem? (i := 1153) (by decide +kernel), List.mem_of_getElem? (i := 1513) (by decide +kernel), List.mem_of_getElem? (i := 1514) (by decide +kernel)⟩
theorem lw_p70 : lw_okq (⟨"QueenBeltModel", "stands", "()V"⟩, 76) := ⟨⟨by decide +kernel, by decide +kernel⟩, List.mem_of_getElem? (i := 1153) (by decide +kernel), List.mem_of_getElem? (i := 1517) (by decide +kernel), List.mem_of_getElem? (i := 1518) (by decide +kernel)⟩
theorem lw_p71 : lw_okq (⟨"QueenBeltModel", "canTurn", "(II)Z"⟩, 76) := ⟨⟨by decide +kernel, by decide +kernel⟩, List.mem_of_getElem? (i := 1153) (by decide +kernel), List.mem_of_getElem? (i := 1521) (by decide +kernel), List.mem_of_getElem? (i := 1522) (by decide +kernel)⟩
theorem lw_p72 : lw_okq (⟨"QueenBeltModel", "cardMany", "()I"⟩, 76) := ⟨⟨by decide +kernel, by decide +kernel⟩, List.mem_of_getElem? (i := 1153) (by decide +kernel), List.mem_of_getElem? (i := 1525) (by decide +kernel), List.mem_of_getElem? (i := 1526) (by decide +kernel)⟩
theorem lw_p73 : lw_okq (⟨"QueenBeltModel", "twistAt", "(II)I"⟩, 76) := ⟨⟨by decide +kernel, by decide +kernel⟩, List.mem_of_getElem? (i := 1153) (by decide +kernel), List.mem_of_getElem? (i := 1529) (by decide +kernel), List.mem_of_getElem? (i := 1530) (by decide +kernel)⟩
theorem lw_p74 : lw_okq (⟨"QueenBeltModel", "turnBy", "(III)I"⟩, 76) := ⟨⟨by decide +kernel, by decide +kernel⟩, List.mem_of_getElem? (i := 1153) (by decide +kernel), List.mem_of_getElem? (i := 1536) (by decide +kernel), List.mem_of_getElem? (i := 1537) (by decide +kernel)⟩
theorem lw_p75 : lw_okq (⟨"QueenBeltModel", "turns0", "(II)V"⟩, 76) := ⟨⟨by decide +kernel, by decide +kernel⟩, List.mem_of_getElem? (i := 1153) (by decide +kernel), List.mem_of_getElem? (i := 1543) (by decide +kernel), List.mem_of_getElem? (i := 1544) (by decide +kernel)⟩
theorem lw_p76 : lw_okq (⟨"QueenBeltModel", "colourMany", "()I"⟩, 76) := ⟨⟨by decide +kernel, by decide +kernel⟩, List.mem_of_getElem? (i := 1153) (by decide +kernel), List.mem_of_getElem? (i := 1555) (by decide +kernel), List.mem_of_getElem? (i := 1556) (by decide +kernel)⟩
theorem lw_p77 : lw_okq (⟨"QueenBeltModel", "packMany", "()I"⟩, 76) := ⟨⟨by decide +kernel, by decide +kernel⟩, List.mem_of_getElem? (i := 1153) (by decide +kernel), List.mem_of_getElem? (i := 1559) (by decide +kernel), List.mem_of_getElem? (i := 1560) (by decide +kernel)⟩
theorem lw_p78 : lw_okq (⟨"QueenBeltModel", "leftAll", "()I"⟩, 76) := ⟨⟨by decide +kernel, by decide +kernel⟩, List.mem_of_getElem? (i := 1153) (by decide +kernel), List.mem_of_getElem? (i := 1563) (by decide +kernel), List.mem_of_getElem? (i := 1564) (by decide +kernel)⟩
theorem lw_p79 : lw_okq (⟨"QueenBeltModel", "rhyme", "()I"⟩, 76) := ⟨⟨by decide +kernel, by decide +kernel⟩, List.mem_of_getElem? (i := 1153) (by decide +kernel), List.mem_of_getElem? (i := 1567) (by decide +kernel), List.mem_of_getElem? (i := 1568) (by decide +kernel)⟩
def lw_privs_5 : List (MethodName × Nat) := [(⟨"QueenBeltModel", "asksSign", "(I)V"⟩, 76), (⟨"QueenBeltModel", "takesSign", "(I)Z"⟩, 76), (⟨"QueenBeltModel", "isNameAhead", "()Z"⟩, 76), (⟨"QueenBeltModel", "letterIs", "(II)V"⟩, 76), (⟨"QueenBeltModel", "turnEnds", "()V"⟩, 76), (⟨"QueenBeltModel", "isTurnAhead", "()Z"⟩, 76), (⟨"QueenBeltModel", "stands", "()V"⟩, 76), (⟨"QueenBeltModel", "canTurn", "(II)Z"⟩, 76), (⟨"QueenBeltModel", "cardMany", "()I"⟩, 76), (⟨"QueenBeltModel", "twistAt", "(II)I"⟩, 76), (⟨"QueenBeltModel", "turnBy", "(III)I"⟩, 76), (⟨"QueenBeltModel", "turns0", "(II)V"⟩, 76), (⟨"QueenBeltModel", "colourMany", "()I"⟩, 76), (⟨"QueenBeltModel", "packMany", "()I"⟩, 76), (⟨"QueenBeltModel", "leftAll", "()I"⟩, 76), (⟨"QueenBeltModel", "rhyme", "()I"⟩, 76)]
theorem lw_r5 : ∀ q ∈ lw_privs_5, lw_okq q := List.forall_mem_cons.mpr ⟨lw_p64, List.forall_mem_cons.mpr ⟨lw_p65, List.forall_mem_cons.mpr ⟨lw_p66, List.forall_mem_cons.mpr ⟨lw_p67, List.forall_mem_cons.mpr ⟨lw_p68, List.forall_mem_cons.mpr ⟨lw_p69, List.forall_mem_cons.mpr ⟨lw_p70, List.forall_mem_cons.mpr ⟨lw_p71, List.forall_mem_cons.mpr ⟨lw_p72, List.forall_mem_cons.mpr ⟨lw_p73, List.forall_mem_cons.mpr ⟨lw_p74, List.forall_mem_cons.mpr ⟨lw_p75, List.forall_mem_cons.mpr ⟨lw_p76, List.forall_mem_cons.mpr ⟨lw_p77, List.forall_mem_cons.mpr ⟨lw_p78, List.forall_mem_cons.mpr ⟨lw_p79, fun _ h => absurd h List.not_mem_nil⟩⟩⟩⟩⟩⟩⟩⟩⟩⟩⟩⟩⟩⟩⟩⟩
theorem lw_p80 : lw_okq (⟨"QueenBeltModel", "isRhyme", "(I)Z"⟩, 76) := ⟨⟨by decide +kernel, by decide +kernel⟩, List.mem_of_getElem? (i := 1153) (by decide +kernel), List.mem_of_getElem? (i := 1571) (by decide +kernel), List.mem_of_getElem? (i := 1572) (by decide +kernel)⟩
theorem lw_p81 : lw_okq (⟨"QueenBeltModel", "areRowsAlike", "(II)Z"⟩, 76) := ⟨⟨by decide +kernel, by decide +kernel⟩, List.mem_of_getElem? (i := 1153) (by decide +kernel), List.mem_of_getElem? (i := 1575) (by decide +kernel), List.mem_of_getElem? (i := 1576) (by decide +kernel)⟩
theorem lw_p82 : lw_okq (⟨"QueenBeltModel", "joins", "()I"⟩, 76) := ⟨⟨by decide +kernel, by decide +kernel⟩, List.mem_of_getElem? (i := 1153) (by decide +kernel), List.mem_of_getElem? (i := 1579) (by decide +kernel), List.mem_of_getElem? (i := 1580) (by decide +kernel)⟩
theorem lw_p83 : lw_okq (⟨"QueenBeltModel", "isCard", "(I)Z"⟩, 76) := ⟨⟨by decide +kernel, by decide +kernel⟩, List.mem_of_getElem? (i := 1153) (by decide +kernel), List.mem_of_getElem? (i := 1596) (by decide +kernel), List.mem_of_getElem? (i := 1597) (by decide +kernel)⟩
theorem lw_p84 : lw_okq (⟨"QueenBeltModel", "threadOf", "(II)I"⟩, 76) := ⟨⟨by decide +kernel, by decide +kernel⟩, List.mem_of_getElem? (i := 1153) (by decide +kernel), List.mem_of_getElem? (i := 1600) (by decide +kernel), List.mem_of_getElem? (i := 1601) (by decide +kernel)⟩
theorem lw_p85 : lw_okq (⟨"QueenBeltModel", "backOf", "(I)I"⟩, 76) := ⟨⟨by decide +kernel, by decide +kernel⟩, List.mem_of_getElem? (i := 1153) (by decide +kernel), List.mem_of_getElem? (i := 1604) (by decide +kernel), List.mem_of_getElem? (i := 1605) (by decide +kernel)⟩
theorem lw_p86 : lw_okq (⟨"QueenBeltModel", "isPack", "(I)Z"⟩, 76) := ⟨⟨by decide +kernel, by decide +kernel⟩, List.mem_of_getElem? (i := 1153) (by decide +kernel), List.mem_of_getElem? (i := 1612) (by decide +kernel), List.mem_of_getElem? (i := 1613) (by decide +kernel)⟩
theorem lw_p87 : lw_okq (⟨"QueenBeltModel", "frontOf", "(IIZ)I"⟩, 76) := ⟨⟨by decide +kernel, by decide +kernel⟩, List.mem_of_getElem? (i := 1153) (by decide +kernel), List.mem_of_getElem? (i := 1620) (by decide +kernel), List.mem_of_getElem? (i := 1621) (by decide +kernel)⟩
theorem lw_p88 : lw_okq (⟨"QueenBeltModel", "slantOf", "(II)I"⟩, 76) := ⟨⟨by decide +kernel, by decide +kernel⟩, List.mem_of_getElem? (i := 1153) (by decide +kernel), List.mem_of_getElem? (i := 1624) (by decide +kernel), List.mem_of_getElem? (i := 1625) (by decide +kernel)⟩
theorem lw_p89 : lw_okq (⟨"QueenBeltModel", "keeps", "()V"⟩, 76) := ⟨⟨by decide +kernel, by decide +kernel⟩, List.mem_of_getElem? (i := 1153) (by decide +kernel), List.mem_of_getElem? (i := 1640) (by decide +kernel), List.mem_of_getElem? (i := 1641) (by decide +kernel)⟩
theorem lw_p90 : lw_okq (⟨"QueenBeltModel", "isCorner", "(I)Z"⟩, 76) := ⟨⟨by decide +kernel, by decide +kernel⟩, List.mem_of_getElem? (i := 1153) (by decide +kernel), List.mem_of_getElem? (i := 1664) (by decide +kernel), List.mem_of_getElem? (i := 1665) (by decide +kernel)⟩
theorem lw_p91 : lw_okq (⟨"QueenBeltModel", "isWay", "(IIIIZ)Z"⟩, 76) := ⟨⟨by decide +kernel, by decide +kernel⟩, List.mem_of_getElem? (i := 1153) (by decide +kernel), List.mem_of_getElem? (i := 1676) (by decide +kernel), List.mem_of_getElem? (i := 1677) (by decide +kernel)⟩
theorem lw_p92 : lw_okq (⟨"QueenBeltModel", "fits", "(IIII)Z"⟩, 76) := ⟨⟨by decide +kernel, by decide +kernel⟩, List.mem_of_getElem? (i := 1153) (by decide +kernel), List.mem_of_getElem? (i := 1680) (by decide +kernel), List.mem_of_getElem? (i := 1681) (by decide +kernel)⟩
theorem lw_p93 : lw_okq (⟨"QueenBeltModel", "hasWays", "(II)Z"⟩, 76) := ⟨⟨by decide +kernel, by decide +kernel⟩, List.mem_of_getElem? (i := 1153) (by decide +kernel), List.mem_of_getElem? (i := 1691) (by decide +kernel), List.mem_of_getElem? (i := 1692) (by decide +kernel)⟩
theorem lw_p94 : lw_okq (⟨"QueenBeltModel", "haveLike", "(II)Z"⟩, 76) := ⟨⟨by decide +kernel, by decide +kernel⟩, List.mem_of_getElem? (i := 1153) (by decide +kernel), List.mem_of_getElem? (i := 1700) (by decide +kernel), List.mem_of_getElem? (i := 1701) (by decide +kernel)⟩
theorem lw_p95 : lw_okq (⟨"QueenBeltModel", "hasLike", "(III)Z"⟩, 76) := ⟨⟨by decide +kernel, by decide +kernel⟩, List.mem_of_getElem? (i := 1153) (by decide +kernel), List.mem_of_getElem? (i := 1704) (by decide +kernel), List.mem_of_getElem? (i := 1705) (by decide +kernel)⟩
def lw_privs_6 : List (MethodName × Nat) := [(⟨"QueenBeltModel", "isRhyme", "(I)Z"⟩, 76), (⟨"QueenBeltModel", "areRowsAlike", "(II)Z"⟩, 76), (⟨"QueenBeltModel", "joins", "()I"⟩, 76), (⟨"QueenBeltModel", "isCard", "(I)Z"⟩, 76), (⟨"QueenBeltModel", "threadOf", "(II)I"⟩, 76), (⟨"QueenBeltModel", "backOf", "(I)I"⟩, 76), (⟨"QueenBeltModel", "isPack", "(I)Z"⟩, 76), (⟨"QueenBeltModel", "frontOf", "(IIZ)I"⟩, 76), (⟨"QueenBeltModel", "slantOf", "(II)I"⟩, 76), (⟨"QueenBeltModel", "keeps", "()V"⟩, 76), (⟨"QueenBeltModel", "isCorner", "(I)Z"⟩, 76), (⟨"QueenBeltModel", "isWay", "(IIIIZ)Z"⟩, 76), (⟨"QueenBeltModel", "fits", "(IIII)Z"⟩, 76), (⟨"QueenBeltModel", "hasWays", "(II)Z"⟩, 76), (⟨"QueenBeltModel", "haveLike", "(II)Z"⟩, 76), (⟨"QueenBeltModel", "hasLike", "(III)Z"⟩, 76)]
theorem lw_r6 : ∀ q ∈ lw_privs_6, lw_okq q := List.forall_mem_cons.mpr ⟨lw_p80, List.forall_mem_cons.mpr ⟨lw_p81, List.forall_mem_cons.mpr ⟨lw_p82, List.forall_mem_cons.mpr ⟨lw_p83, List.forall_mem_cons.mpr ⟨lw_p84, List.forall_mem_cons.mpr ⟨lw_p85, List.forall_mem_cons.mpr ⟨lw_p86, List.forall_mem_cons.mpr ⟨lw_p87, List.forall_mem_cons.mpr ⟨lw_p88, List.forall_mem_cons.mpr ⟨lw_p89, List.forall_mem_cons.mpr ⟨lw_p90, List.forall_mem_cons.mpr ⟨lw_p91, List.forall_mem_cons.mpr ⟨lw_p92, List.forall_mem_cons.mpr ⟨lw_p93, List.forall_mem_cons.mpr ⟨lw_p94, List.forall_mem_cons.mpr ⟨lw_p95, fun _ h => absurd h List.not_mem_nil⟩⟩⟩⟩⟩⟩⟩⟩⟩⟩⟩⟩⟩⟩⟩⟩
theorem lw_p96 : lw_okq (⟨"QueenBeltModel", "nearestOf", "(I)I"⟩, 76) := ⟨⟨by decide +kernel, by decide +kernel⟩, List.mem_of_getElem? (i := 1153) (by decide +kernel), List.mem_of_getElem? (i := 1716) (by decide +kernel), List.mem_of_getElem? (i := 1717) (by decide +kernel)⟩
theorem lw_p97 : lw_okq (⟨"QueenBeltModel", "rightBy", "(II)I"⟩, 76) := ⟨⟨by decide +kernel, by decide +kernel⟩, List.mem_of_getElem? (i := 1153) (by decide +kernel), List.mem_of_getElem? (i := 1720) (by decide +kernel), List.mem_of_getElem? (i := 1721) (by decide +kernel)⟩
theorem lw_p98 : lw_okq (⟨"QueenBeltModel", "isWrong", "(II)Z"⟩, 76) := ⟨⟨by decide +kernel, by decide +kernel⟩, List.mem_of_getElem? (i := 1153) (by decide +kernel), List.mem_of_getElem? (i := 1728) (by decide +kernel), List.mem_of_getElem? (i := 1729) (by decide +kernel)⟩
theorem lw_p99 : lw_okq (⟨"QueenBeltModel", "looks", "(II)Z"⟩, 76) := ⟨⟨by decide +kernel, by decide +kernel⟩, List.mem_of_getElem? (i := 1153) (by decide +kernel), List.mem_of_getElem? (i := 1732) (by decide +kernel), List.mem_of_getElem? (i := 1733) (by decide +kernel)⟩
theorem lw_p100 : lw_okq (⟨"QueenBeltModel", "isRowRight", "(I)Z"⟩, 76) := ⟨⟨by decide +kernel, by decide +kernel⟩, List.mem_of_getElem? (i := 1153) (by decide +kernel), List.mem_of_getElem? (i := 1740) (by decide +kernel), List.mem_of_getElem? (i := 1741) (by decide +kernel)⟩
theorem lw_p101 : lw_okq (⟨"QueenBeltModel", "qKind", "()I"⟩, 76) := ⟨⟨by decide +kernel, by decide +kernel⟩, List.mem_of_getElem? (i := 1153) (by decide +kernel), List.mem_of_getElem? (i := 1752) (by decide +kernel), List.mem_of_getElem? (i := 1753) (by decide +kernel)⟩
theorem lw_p102 : lw_okq (⟨"QueenBeltModel", "qTest", "()V"⟩, 76) := ⟨⟨by decide +kernel, by decide +kernel⟩, List.mem_of_getElem? (i := 1153) (by decide +kernel), List.mem_of_getElem? (i := 1756) (by decide +kernel), List.mem_of_getElem? (i := 1757) (by decide +kernel)⟩
theorem lw_p103 : lw_okq (⟨"QueenBeltModel", "qOpens", "(II)V"⟩, 76) := ⟨⟨by decide +kernel, by decide +kernel⟩, List.mem_of_getElem? (i := 1153) (by decide +kernel), List.mem_of_getElem? (i := 1760) (by decide +kernel), List.mem_of_getElem? (i := 1761) (by decide +kernel)⟩
theorem lw_p104 : lw_okq (⟨"QueenBeltModel", "qFact", "()V"⟩, 76) := ⟨⟨by decide +kernel, by decide +kernel⟩, List.mem_of_getElem? (i := 1153) (by decide +kernel), List.mem_of_getElem? (i := 1764) (by decide +kernel), List.mem_of_getElem? (i := 1765) (by decide +kernel)⟩
theorem lw_p105 : lw_okq (⟨"QueenBeltModel", "qCode", "(I)V"⟩, 76) := ⟨⟨by decide +kernel, by decide +kernel⟩, List.mem_of_getElem? (i := 1153) (by decide +kernel), List.mem_of_getElem? (i := 1768) (by decide +kernel), List.mem_of_getElem? (i := 1769) (by decide +kernel)⟩
theorem lw_p106 : lw_okq (⟨"QueenBeltModel", "qSums", "()V"⟩, 76) := ⟨⟨by decide +kernel, by decide +kernel⟩, List.mem_of_getElem? (i := 1153) (by decide +kernel), List.mem_of_getElem? (i := 1772) (by decide +kernel), List.mem_of_getElem? (i := 1773) (by decide +kernel)⟩
theorem lw_p107 : lw_okq (⟨"QueenBeltModel", "qPartTold", "()V"⟩, 76) := ⟨⟨by decide +kernel, by decide +kernel⟩, List.mem_of_getElem? (i := 1153) (by decide +kernel), List.mem_of_getElem? (i := 1776) (by decide +kernel), List.mem_of_getElem? (i := 1777) (by decide +kernel)⟩
theorem lw_p108 : lw_okq (⟨"QueenBeltModel", "qWordOf", "(II)I"⟩, 76) := ⟨⟨by decide +kernel, by decide +kernel⟩, List.mem_of_getElem? (i := 1153) (by decide +kernel), List.mem_of_getElem? (i := 1780) (by decide +kernel), List.mem_of_getElem? (i := 1781) (by decide +kernel)⟩
theorem lw_p109 : lw_okq (⟨"QueenBeltModel", "qWordHere", "()I"⟩, 76) := ⟨⟨by decide +kernel, by decide +kernel⟩, List.mem_of_getElem? (i := 1153) (by decide +kernel), List.mem_of_getElem? (i := 1784) (by decide +kernel), List.mem_of_getElem? (i := 1785) (by decide +kernel)⟩
theorem lw_p110 : lw_okq (⟨"QueenBeltModel", "qAsksWord", "(I)V"⟩, 76) := ⟨⟨by decide +kernel, by decide +kernel⟩, List.mem_of_getElem? (i := 1153) (by decide +kernel), List.mem_of_getElem? (i := 1788) (by decide +kernel), List.mem_of_getElem? (i := 1789) (by decide +kernel)⟩
theorem lw_p111 : lw_okq (⟨"QueenBeltModel", "qEndsPart", "()V"⟩, 76) := ⟨⟨by decide +kernel, by decide +kernel⟩, List.mem_of_getElem? (i := 1153) (by decide +kernel), List.mem_of_getElem? (i := 1792) (by decide +kernel), List.mem_of_getElem? (i := 1793) (by decide +kernel)⟩
def lw_privs_7 : List (MethodName × Nat) := [(⟨"QueenBeltModel", "nearestOf", "(I)I"⟩, 76), (⟨"QueenBeltModel", "rightBy", "(II)I"⟩, 76), (⟨"QueenBeltModel", "isWrong", "(II)Z"⟩, 76), (⟨"QueenBeltModel", "looks", "(II)Z"⟩, 76), (⟨"QueenBeltModel", "isRowRight", "(I)Z"⟩, 76), (⟨"QueenBeltModel", "qKind", "()I"⟩, 76), (⟨"QueenBeltModel", "qTest", "()V"⟩, 76), (⟨"QueenBeltModel", "qOpens", "(II)V"⟩, 76), (⟨"QueenBeltModel", "qFact", "()V"⟩, 76), (⟨"QueenBeltModel", "qCode", "(I)V"⟩, 76), (⟨"QueenBeltModel", "qSums", "()V"⟩, 76), (⟨"QueenBeltModel", "qPartTold", "()V"⟩, 76), (⟨"QueenBeltModel", "qWordOf", "(II)I"⟩, 76), (⟨"QueenBeltModel", "qWordHere", "()I"⟩, 76), (⟨"QueenBeltModel", "qAsksWord", "(I)V"⟩, 76), (⟨"QueenBeltModel", "qEndsPart", "()V"⟩, 76)]
theorem lw_r7 : ∀ q ∈ lw_privs_7, lw_okq q := List.forall_mem_cons.mpr ⟨lw_p96, List.forall_mem_cons.mpr ⟨lw_p97, List.forall_mem_cons.mpr ⟨lw_p98, List.forall_mem_cons.mpr ⟨lw_p99, List.forall_mem_cons.mpr ⟨lw_p100, List.forall_mem_cons.mpr ⟨lw_p101, List.forall_mem_cons.mpr ⟨lw_p102, List.forall_mem_cons.mpr ⟨lw_p103, List.forall_mem_cons.mpr ⟨lw_p104, List.forall_mem_cons.mpr ⟨lw_p105, List.forall_mem_cons.mpr ⟨lw_p106, List.forall_mem_cons.mpr ⟨lw_p107, List.forall_mem_cons.mpr ⟨lw_p108, List.forall_mem_cons.mpr ⟨lw_p109, List.forall_mem_cons.mpr ⟨lw_p110, List.forall_mem_cons.mpr ⟨lw_p111, fun _ h => absurd h List.not_mem_nil⟩⟩⟩⟩⟩⟩⟩⟩⟩⟩⟩⟩⟩⟩⟩⟩
theorem lw_p112 : lw_okq (⟨"QueenBeltModel", "qDrops", "()V"⟩, 76) := ⟨⟨by decide +kernel, by decide +kernel⟩, List.mem_of_getElem? (i := 1153) (by decide +kernel), List.mem_of_getElem? (i := 1796) (by decide +kernel), List.mem_of_getElem? (i := 1797) (by decide +kernel)⟩
theorem lw_p113 : lw_okq (⟨"QueenBeltModel", "qGoesOn", "()Z"⟩, 76) := ⟨⟨by decide +kernel, by decide +kernel⟩, List.mem_of_getElem? (i := 1153) (by decide +kernel), List.mem_of_getElem? (i := 1800) (by decide +kernel), List.mem_of_getElem? (i := 1801) (by decide +kernel)⟩
theorem lw_p114 : lw_okq (⟨"QueenBeltModel", "qBracket", "()I"⟩, 76) := ⟨⟨by decide +kernel, by decide +kernel⟩, List.mem_of_getElem? (i := 1153) (by decide +kernel), List.mem_of_getElem? (i := 1804) (by decide +kernel), List.mem_of_getElem? (i := 1805) (by decide +kernel)⟩
theorem lw_p115 : lw_okq (⟨"QueenBeltModel", "qDropsToBracket", "()V"⟩, 76) := ⟨⟨by decide +kernel, by decide +kernel⟩, List.mem_of_getElem? (i := 1153) (by decide +kernel), List.mem_of_getElem? (i := 1811) (by decide +kernel), List.mem_of_getElem? (i := 1812) (by decide +kernel)⟩
theorem lw_p116 : lw_okq (⟨"QueenBeltModel", "qIsOn", "(I)Z"⟩, 76) := ⟨⟨by decide +kernel, by decide +kernel⟩, List.mem_of_getElem? (i := 1153) (by decide +kernel), List.mem_of_getElem? (i := 1815) (by decide +kernel), List.mem_of_getElem? (i := 1816) (by decide +kernel)⟩
theorem lw_p117 : lw_okq (⟨"QueenBeltModel", "qDropsNots", "()V"⟩, 76) := ⟨⟨by decide +kernel, by decide +kernel⟩, List.mem_of_getElem? (i := 1153) (by decide +kernel), List.mem_of_getElem? (i := 1819) (by decide +kernel), List.mem_of_getElem? (i := 1820) (by decide +kernel)⟩
theorem lw_p118 : lw_okq (⟨"QueenBeltModel", "qGoesOnTest", "()Z"⟩, 76) := ⟨⟨by decide +kernel, by decide +kernel⟩, List.mem_of_getElem? (i := 1153) (by decide +kernel), List.mem_of_getElem? (i := 1823) (by decide +kernel), List.mem_of_getElem? (i := 1824) (by decide +kernel)⟩
theorem lw_p119 : lw_okq (⟨"QueenBeltModel", "qHasSquare", "()Z"⟩, 76) := ⟨⟨by decide +kernel, by decide +kernel⟩, List.mem_of_getElem? (i := 1153) (by decide +kernel), List.mem_of_getElem? (i := 1827) (by decide +kernel), List.mem_of_getElem? (i := 1828) (by decide +kernel)⟩
theorem lw_p120 : lw_okq (⟨"QueenBeltModel", "qTold", "(I)J"⟩, 76) := ⟨⟨by decide +kernel, by decide +kernel⟩, List.mem_of_getElem? (i := 1153) (by decide +kernel), List.mem_of_getElem? (i := 1832) (by decide +kernel), List.mem_of_getElem? (i := 1833) (by decide +kernel)⟩
theorem lw_p121 : lw_okq (⟨"QueenBeltModel", "qPuts", "(J)V"⟩, 76) := ⟨⟨by decide +kernel, by decide +kernel⟩, List.mem_of_getElem? (i := 1153) (by decide +kernel), List.mem_of_getElem? (i := 1836) (by decide +kernel), List.mem_of_getElem? (i := 1837) (by decide +kernel)⟩
theorem lw_p122 : lw_okq (⟨"QueenBeltModel", "qOf", "(IJI)J"⟩, 76) := ⟨⟨by decide +kernel, by decide +kernel⟩, List.mem_of_getElem? (i := 1153) (by decide +kernel), List.mem_of_getElem? (i := 1840) (by decide +kernel), List.mem_of_getElem? (i := 1841) (by decide +kernel)⟩
theorem lw_p123 : lw_okq (⟨"QueenBeltModel", "qPartOf", "(II)J"⟩, 76) := ⟨⟨by decide +kernel, by decide +kernel⟩, List.mem_of_getElem? (i := 1153) (by decide +kernel), List.mem_of_getElem? (i := 1850) (by decide +kernel), List.mem_of_getElem? (i := 1851) (by decide +kernel)⟩
theorem lw_p124 : lw_okq (⟨"QueenBeltModel", "qTurned", "(II)J"⟩, 76) := ⟨⟨by decide +kernel, by decide +kernel⟩, List.mem_of_getElem? (i := 1153) (by decide +kernel), List.mem_of_getElem? (i := 1854) (by decide +kernel), List.mem_of_getElem? (i := 1855) (by decide +kernel)⟩
theorem lw_p125 : lw_okq (⟨"QueenBeltModel", "qJoins", "(I)V"⟩, 76) := ⟨⟨by decide +kernel, by decide +kernel⟩, List.mem_of_getElem? (i := 1153) (by decide +kernel), List.mem_of_getElem? (i := 1858) (by decide +kernel), List.mem_of_getElem? (i := 1859) (by decide +kernel)⟩
theorem lw_p126 : lw_okq (⟨"QueenBeltModel", "qTakes", "(IJI)V"⟩, 76) := ⟨⟨by decide +kernel, by decide +kernel⟩, List.mem_of_getElem? (i := 1153) (by decide +kernel), List.mem_of_getElem? (i := 1865) (by decide +kernel), List.mem_of_getElem? (i := 1866) (by decide +kernel)⟩
theorem lw_p127 : lw_okq (⟨"QueenBeltModel", "isTold", "(I)Z"⟩, 76) := ⟨⟨by decide +kernel, by decide +kernel⟩, List.mem_of_getElem? (i := 1153) (by decide +kernel), List.mem_of_getElem? (i := 1884) (by decide +kernel), List.mem_of_getElem? (i := 1885) (by decide +kernel)⟩
def lw_privs_8 : List (MethodName × Nat) := [(⟨"QueenBeltModel", "qDrops", "()V"⟩, 76), (⟨"QueenBeltModel", "qGoesOn", "()Z"⟩, 76), (⟨"QueenBeltModel", "qBracket", "()I"⟩, 76), (⟨"QueenBeltModel", "qDropsToBracket", "()V"⟩, 76), (⟨"QueenBeltModel", "qIsOn", "(I)Z"⟩, 76), (⟨"QueenBeltModel", "qDropsNots", "()V"⟩, 76), (⟨"QueenBeltModel", "qGoesOnTest", "()Z"⟩, 76), (⟨"QueenBeltModel", "qHasSquare", "()Z"⟩, 76), (⟨"QueenBeltModel", "qTold", "(I)J"⟩, 76), (⟨"QueenBeltModel", "qPuts", "(J)V"⟩, 76), (⟨"QueenBeltModel", "qOf", "(IJI)J"⟩, 76), (⟨"QueenBeltModel", "qPartOf", "(II)J"⟩, 76), (⟨"QueenBeltModel", "qTurned", "(II)J"⟩, 76), (⟨"QueenBeltModel", "qJoins", "(I)V"⟩, 76), (⟨"QueenBeltModel", "qTakes", "(IJI)V"⟩, 76), (⟨"QueenBeltModel", "isTold", "(I)Z"⟩, 76)]
theorem lw_r8 : ∀ q ∈ lw_privs_8, lw_okq q := List.forall_mem_cons.mpr ⟨lw_p112, List.forall_mem_cons.mpr ⟨lw_p113, List.forall_mem_cons.mpr ⟨lw_p114, List.forall_mem_cons.mpr ⟨lw_p115, List.forall_mem_cons.mpr ⟨lw_p116, List.forall_mem_cons.mpr ⟨lw_p117, List.forall_mem_cons.mpr ⟨lw_p118, List.forall_mem_cons.mpr ⟨lw_p119, List.forall_mem_cons.mpr ⟨lw_p120, List.forall_mem_cons.mpr ⟨lw_p121, List.forall_mem_cons.mpr ⟨lw_p122, List.forall_mem_cons.mpr ⟨lw_p123, List.forall_mem_cons.mpr ⟨lw_p124, List.forall_mem_cons.mpr ⟨lw_p125, List.forall_mem_cons.mpr ⟨lw_p126, List.forall_mem_cons.mpr ⟨lw_p127, fun _ h => absurd h List.not_mem_nil⟩⟩⟩⟩⟩⟩⟩⟩⟩⟩⟩⟩⟩⟩⟩⟩
def lw_privs : List (MethodName × Nat) := lw_privs_1 ++ (lw_privs_2 ++ (lw_privs_3 ++ (lw_privs_4 ++ (lw_privs_5 ++ (lw_privs_6 ++ (lw_privs_7 ++ (lw_privs_8)))))))
def lw_tbl : List Cond := k2_sels lw_privs ++ tables_1
theorem lw_privs_ok : ∀ q ∈ lw_privs, lw_okq q := by
  show ∀ q ∈ lw_privs_1 ++ (lw_privs_2 ++ (lw_privs_3 ++ (lw_privs_4 ++ (lw_privs_5 ++ (lw_privs_6 ++ (lw_privs_7 ++ (lw_privs_8))))))), lw_okq q
  exact List.forall_mem_append.mpr ⟨lw_r1, List.forall_mem_append.mpr ⟨lw_r2, List.forall_mem_append.mpr ⟨lw_r3, List.forall_mem_append.mpr ⟨lw_r4, List.forall_mem_append.mpr ⟨lw_r5, List.forall_mem_append.mpr ⟨lw_r6, List.forall_mem_append.mpr ⟨lw_r7, lw_r8⟩⟩⟩⟩⟩⟩⟩
def RX0 : String := "QueenBelt$Acts"
def TX0 : u_T := fun k => match k with
  | 0 => ("QueenBelt$Acts", "belt", "LQueenBelt$Belt;", true)
  | 1 => ("QueenBelt$Acts", "kinds", "[I", true)
  | 2 => ("QueenBelt$Acts", "whats", "[I", true)
  | _ => ("QueenBelt$Acts", "count", "I", false)
def tyX0 : Nat → FieldType := fun k => match k with
  | 0 => .object "QueenBelt$Belt"
  | 1 => .array .int
  | 2 => .array .int
  | _ => .int
abbrev wsX00 : List Cond := u_ws RX0 TX0 4
theorem nmX0 : ∀ a, a < 4 → ∀ b, b < 4 → a ≠ b → (TX0 a).2.1 ≠ (TX0 b).2.1 := by decide +kernel
theorem tyX0_ok : ∀ k, k < 4 → parseFieldDescriptor (TX0 k).2.2.1 = some (tyX0 k) := by decide +kernel
abbrev cX0_init : ByteArray := prog_2_method_1_code
def yX0_init : MethodName := ⟨RX0, "<init>", "(LQueenBelt$Belt;)V"⟩
abbrev cX0_keep : ByteArray := prog_2_method_2_code
def yX0_keep : MethodName := ⟨RX0, "keep", "(II)V"⟩
abbrev cX0_forgetOldest : ByteArray := prog_2_method_3_code
def yX0_forgetOldest : MethodName := ⟨RX0, "forgetOldest", "()V"⟩
abbrev cX0_takeBack : ByteArray := prog_2_method_4_code
def yX0_takeBack : MethodName := ⟨RX0, "takeBack", "()Z"⟩
def RX1 : String := "QueenBelt$Belt"
def TX1 : u_T := fun k => match k with
  | 0 => ("QueenBelt$Belt", "cards", "I", false)
  | 1 => ("QueenBelt$Belt", "rows", "I", false)
  | 2 => ("QueenBelt$Belt", "limit", "I", false)
  | 3 => ("QueenBelt$Belt", "sides", "[I", true)
  | 4 => ("QueenBelt$Belt", "threads", "[I", true)
  | 5 => ("QueenBelt$Belt", "turnings", "[I", true)
  | _ => ("QueenBelt$Belt", "twists", "[I", true)
def tyX1 : Nat → FieldType := fun k => match k with
  | 0 => .int
  | 1 => .int
  | 2 => .int
  | 3 => .array .int
  | 4 => .array .int
  | 5 => .array .int
  | _ => .array .int
abbrev wsX10 : List Cond := u_ws RX1 TX1 7
theorem nmX1 : ∀ a, a < 7 → ∀ b, b < 7 → a ≠ b → (TX1 a).2.1 ≠ (TX1 b).2.1 := by decide +kernel
theorem tyX1_ok : ∀ k, k < 7 → parseFieldDescriptor (TX1 k).2.2.1 = some (tyX1 k) := by decide +kernel
abbrev cX1_init : ByteArray := prog_3_method_1_code
def yX1_init : MethodName := ⟨RX1, "<init>", "()V"⟩
abbrev cX1_begin : ByteArray := prog_3_method_2_code
def yX1_begin : MethodName := ⟨RX1, "begin", "(LQueenBelt$Loom;)I"⟩
abbrev cX1_weave : ByteArray := prog_3_method_3_code
def yX1_weave : MethodName := ⟨RX1, "weave", "(I)Z"⟩
abbrev cX1_turnIn : ByteArray := prog_3_method_4_code
def yX1_turnIn : MethodName := ⟨RX1, "turnIn", "(II)I"⟩
abbrev cX1_quarters : ByteArray := prog_3_method_5_code
def yX1_quarters : MethodName := ⟨RX1, "quarters", "(II)I"⟩
abbrev cX1_hasCard : ByteArray := prog_3_method_6_code
def yX1_hasCard : MethodName := ⟨RX1, "hasCard", "(I)Z"⟩
abbrev cX1_hasRow : ByteArray := prog_3_method_7_code
def yX1_hasRow : MethodName := ⟨RX1, "hasRow", "(I)Z"⟩
abbrev cX1_side : ByteArray := prog_3_method_8_code
def yX1_side : MethodName := ⟨RX1, "side", "(I)I"⟩
abbrev cX1_setSide : ByteArray := prog_3_method_9_code
def yX1_setSide : MethodName := ⟨RX1, "setSide", "(II)V"⟩
abbrev cX1_otherSide : ByteArray := prog_3_method_10_code
def yX1_otherSide : MethodName := ⟨RX1, "otherSide", "(I)V"⟩
abbrev cX1_thread : ByteArray := prog_3_method_11_code
def yX1_thread : MethodName := ⟨RX1, "thread", "(II)I"⟩
abbrev cX1_setThread : ByteArray := prog_3_method_12_code
def yX1_setThread : MethodName := ⟨RX1, "setThread", "(III)V"⟩
abbrev cX1_threadsOn : ByteArray := prog_3_method_13_code
def yX1_threadsOn : MethodName := ⟨RX1, "threadsOn", "(II)V"⟩
abbrev cX1_turningOf : ByteArray := prog_3_method_14_code
def yX1_turningOf : MethodName := ⟨RX1, "turningOf", "(I)I"⟩
abbrev cX1_turnOf : ByteArray := prog_3_method_15_code
def yX1_turnOf : MethodName := ⟨RX1, "turnOf", "(II)I"⟩
abbrev cX1_twistBehind : ByteArray := prog_3_method_16_code
def yX1_twistBehind : MethodName := ⟨RX1, "twistBehind", "(II)I"⟩
abbrev cX1_front : ByteArray := prog_3_method_17_code
def yX1_front : MethodName := ⟨RX1, "front", "(II)I"⟩
abbrev cX1_behind : ByteArray := prog_3_method_18_code
def yX1_behind : MethodName := ⟨RX1, "behind", "(II)I"⟩
abbrev cX1_slant : ByteArray := prog_3_method_19_code
def yX1_slant : MethodName := ⟨RX1, "slant", "(II)I"⟩
abbrev cX1_cells : ByteArray := prog_3_method_20_code
def yX1_cells : MethodName := ⟨RX1, "cells", "(IZ)I"⟩
abbrev cX1_turned : ByteArray := prog_3_method_21_code
def yX1_turned : MethodName := ⟨RX1, "turned", "(II)I"⟩
abbrev cX1_backs : ByteArray := prog_3_method_22_code
def yX1_backs : MethodName := ⟨RX1, "backs", "(I)I"⟩
abbrev cX1_left : ByteArray := prog_3_method_23_code
def yX1_left : MethodName := ⟨RX1, "left", "()I"⟩
abbrev cX1_rhyme : ByteArray := prog_3_method_24_code
def yX1_rhyme : MethodName := ⟨RX1, "rhyme", "()I"⟩
abbrev cX1_comesAgain : ByteArray := prog_3_method_25_code
def yX1_comesAgain : MethodName := ⟨RX1, "comesAgain", "(I)Z"⟩
abbrev cX1_joins : ByteArray := prog_3_method_26_code
def yX1_joins : MethodName := ⟨RX1, "joins", "()I"⟩
def RX2 : String := "QueenBelt$Cells"
def TX2 : u_T := fun k => match k with
  | _ => ("", "", "", false)
def tyX2 : Nat → FieldType := fun k => match k with
  | _ => .int
abbrev wsX20 : List Cond := u_ws RX2 TX2 0
theorem nmX2 : ∀ a, a < 0 → ∀ b, b < 0 → a ≠ b → (TX2 a).2.1 ≠ (TX2 b).2.1 := by decide +kernel
theorem tyX2_ok : ∀ k, k < 0 → parseFieldDescriptor (TX2 k).2.2.1 = some (tyX2 k) := by decide +kernel
abbrev cX2_at : ByteArray := prog_4_method_2_code
def yX2_at : MethodName := ⟨RX2, "at", "([II)I"⟩
abbrev cX2_put : ByteArray := prog_4_method_3_code
def yX2_put : MethodName := ⟨RX2, "put", "([III)V"⟩
abbrev cX2_copy : ByteArray := prog_4_method_4_code
def yX2_copy : MethodName := ⟨RX2, "copy", "([I[I)V"⟩
abbrev cX2_clear : ByteArray := prog_4_method_5_code
def yX2_clear : MethodName := ⟨RX2, "clear", "([I)V"⟩
def RX3 : String := "QueenBelt$Image"
def TX3 : u_T := fun k => match k with
  | 0 => ("QueenBelt$Image", "bytes", "[I", true)
  | _ => ("QueenBelt$Image", "length", "I", false)
def tyX3 : Nat → FieldType := fun k => match k with
  | 0 => .array .int
  | _ => .int
abbrev wsX30 : List Cond := u_ws RX3 TX3 2
theorem nmX3 : ∀ a, a < 2 → ∀ b, b < 2 → a ≠ b → (TX3 a).2.1 ≠ (TX3 b).2.1 := by decide +kernel
theorem tyX3_ok : ∀ k, k < 2 → parseFieldDescriptor (TX3 k).2.2.1 = some (tyX3 k) := by decide +kernel
abbrev cX3_init : ByteArray := prog_5_method_1_code
def yX3_init : MethodName := ⟨RX3, "<init>", "()V"⟩
abbrev cX3_octetAt : ByteArray := prog_5_method_2_code
def yX3_octetAt : MethodName := ⟨RX3, "octetAt", "(I)I"⟩
abbrev cX3_add : ByteArray := prog_5_method_3_code
def yX3_add : MethodName := ⟨RX3, "add", "(I)V"⟩
abbrev cX3_summed : ByteArray := prog_5_method_4_code
def yX3_summed : MethodName := ⟨RX3, "summed", "(II)I"⟩
abbrev cX3_write : ByteArray := prog_5_method_5_code
def yX3_write : MethodName := ⟨RX3, "write", "(LQueenBelt$Belt;)V"⟩
abbrev cX3_isOne : ByteArray := prog_5_method_6_code
def yX3_isOne : MethodName := ⟨RX3, "isOne", "(LQueenBelt$Tape;LQueenBelt$Belt;I)Z"⟩
abbrev cX3_isCard : ByteArray := prog_5_method_7_code
def yX3_isCard : MethodName := ⟨RX3, "isCard", "(LQueenBelt$Tape;II)Z"⟩
abbrev cX3_turnAt : ByteArray := prog_5_method_8_code
def yX3_turnAt : MethodName := ⟨RX3, "turnAt", "(LQueenBelt$Tape;III)I"⟩
abbrev cX3_canTurn : ByteArray := prog_5_method_9_code
def yX3_canTurn : MethodName := ⟨RX3, "canTurn", "(LQueenBelt$Tape;LQueenBelt$Belt;I)Z"⟩
abbrev cX3_bring : ByteArray := prog_5_method_10_code
def yX3_bring : MethodName := ⟨RX3, "bring", "(LQueenBelt$Tape;LQueenBelt$Belt;)V"⟩
def RX4 : String := "QueenBelt$Loom"
def TX4 : u_T := fun k => match k with
  | 0 => ("QueenBelt$Loom", "statements", "I", false)
  | 1 => ("QueenBelt$Loom", "colours", "I", false)
  | 2 => ("QueenBelt$Loom", "cards", "I", false)
  | 3 => ("QueenBelt$Loom", "packs", "I", false)
  | 4 => ("QueenBelt$Loom", "limit", "I", false)
  | 5 => ("QueenBelt$Loom", "letters", "I", false)
  | 6 => ("QueenBelt$Loom", "colourNames", "[I", true)
  | 7 => ("QueenBelt$Loom", "cardNames", "[I", true)
  | 8 => ("QueenBelt$Loom", "packNames", "[I", true)
  | 9 => ("QueenBelt$Loom", "sides", "[I", true)
  | 10 => ("QueenBelt$Loom", "threads", "[I", true)
  | 11 => ("QueenBelt$Loom", "packCards", "[I", true)
  | 12 => ("QueenBelt$Loom", "hows", "[I", true)
  | _ => ("QueenBelt$Loom", "whoms", "[I", true)
def tyX4 : Nat → FieldType := fun k => match k with
  | 0 => .int
  | 1 => .int
  | 2 => .int
  | 3 => .int
  | 4 => .int
  | 5 => .int
  | 6 => .array .int
  | 7 => .array .int
  | 8 => .array .int
  | 9 => .array .int
  | 10 => .array .int
  | 11 => .array .int
  | 12 => .array .int
  | _ => .array .int
abbrev wsX40 : List Cond := u_ws RX4 TX4 14
theorem nmX4 : ∀ a, a < 14 → ∀ b, b < 14 → a ≠ b → (TX4 a).2.1 ≠ (TX4 b).2.1 := by decide +kernel
theorem tyX4_ok : ∀ k, k < 14 → parseFieldDescriptor (TX4 k).2.2.1 = some (tyX4 k) := by decide +kernel
abbrev cX4_init : ByteArray := prog_6_method_1_code
def yX4_init : MethodName := ⟨RX4, "<init>", "()V"⟩
abbrev cX4_empty : ByteArray := prog_6_method_2_code
def yX4_empty : MethodName := ⟨RX4, "empty", "()V"⟩
abbrev cX4_take : ByteArray := prog_6_method_3_code
def yX4_take : MethodName := ⟨RX4, "take", "(LQueenBelt$Loom;)V"⟩
abbrev cX4_place : ByteArray := prog_6_method_4_code
def yX4_place : MethodName := ⟨RX4, "place", "([III)I"⟩
abbrev cX4_knows : ByteArray := prog_6_method_5_code
def yX4_knows : MethodName := ⟨RX4, "knows", "(I)Z"⟩
abbrev cX4_nameOf : ByteArray := prog_6_method_6_code
def yX4_nameOf : MethodName := ⟨RX4, "nameOf", "(II)I"⟩
abbrev cX4_isOfPack : ByteArray := prog_6_method_7_code
def yX4_isOfPack : MethodName := ⟨RX4, "isOfPack", "(II)Z"⟩
abbrev cX4_addToPack : ByteArray := prog_6_method_8_code
def yX4_addToPack : MethodName := ⟨RX4, "addToPack", "(II)V"⟩
abbrev cX4_addLetter : ByteArray := prog_6_method_9_code
def yX4_addLetter : MethodName := ⟨RX4, "addLetter", "(II)V"⟩
abbrev cX4_tellAgain : ByteArray := prog_6_method_10_code
def yX4_tellAgain : MethodName := ⟨RX4, "tellAgain", "(I)V"⟩
abbrev cX4_turningOfLetter : ByteArray := prog_6_method_11_code
def yX4_turningOfLetter : MethodName := ⟨RX4, "turningOfLetter", "(I)I"⟩
abbrev cX4_turning : ByteArray := prog_6_method_12_code
def yX4_turning : MethodName := ⟨RX4, "turning", "(II)I"⟩
abbrev cX4_oneTurn : ByteArray := prog_6_method_13_code
def yX4_oneTurn : MethodName := ⟨RX4, "oneTurn", "(IZ)I"⟩
def RX5 : String := "QueenBelt$LoomText"
def TX5 : u_T := fun k => match k with
  | 0 => ("QueenBelt$LoomText", "words", "LQueenBelt$Words;", true)
  | 1 => ("QueenBelt$LoomText", "draft", "LQueenBelt$Loom;", true)
  | _ => ("QueenBelt$LoomText", "weaves", "Z", false)
def tyX5 : Nat → FieldType := fun k => match k with
  | 0 => .object "QueenBelt$Words"
  | 1 => .object "QueenBelt$Loom"
  | _ => .boolean
abbrev wsX50 : List Cond := u_ws RX5 TX5 3
theorem nmX5 : ∀ a, a < 3 → ∀ b, b < 3 → a ≠ b → (TX5 a).2.1 ≠ (TX5 b).2.1 := by decide +kernel
theorem tyX5_ok : ∀ k, k < 3 → parseFieldDescriptor (TX5 k).2.2.1 = some (tyX5 k) := by decide +kernel
abbrev cX5_init : ByteArray := prog_7_method_1_code
def yX5_init : MethodName := ⟨RX5, "<init>", "(LQueenBelt$Words;LQueenBelt$Loom;)V"⟩
abbrev cX5_read : ByteArray := prog_7_method_2_code
def yX5_read : MethodName := ⟨RX5, "read", "()Z"⟩
abbrev cX5_newName : ByteArray := prog_7_method_3_code
def yX5_newName : MethodName := ⟨RX5, "newName", "()I"⟩
abbrev cX5_knownName : ByteArray := prog_7_method_4_code
def yX5_knownName : MethodName := ⟨RX5, "knownName", "([II)I"⟩
abbrev cX5_readColour : ByteArray := prog_7_method_5_code
def yX5_readColour : MethodName := ⟨RX5, "readColour", "()Z"⟩
abbrev cX5_readCard : ByteArray := prog_7_method_6_code
def yX5_readCard : MethodName := ⟨RX5, "readCard", "()Z"⟩
abbrev cX5_readPack : ByteArray := prog_7_method_7_code
def yX5_readPack : MethodName := ⟨RX5, "readPack", "()Z"⟩
abbrev cX5_readPackCard : ByteArray := prog_7_method_8_code
def yX5_readPackCard : MethodName := ⟨RX5, "readPackCard", "(I)Z"⟩
abbrev cX5_readTwist : ByteArray := prog_7_method_9_code
def yX5_readTwist : MethodName := ⟨RX5, "readTwist", "()Z"⟩
abbrev cX5_readWeave : ByteArray := prog_7_method_10_code
def yX5_readWeave : MethodName := ⟨RX5, "readWeave", "()Z"⟩
abbrev cX5_beginsTurn : ByteArray := prog_7_method_11_code
def yX5_beginsTurn : MethodName := ⟨RX5, "beginsTurn", "()Z"⟩
abbrev cX5_readTurn : ByteArray := prog_7_method_12_code
def yX5_readTurn : MethodName := ⟨RX5, "readTurn", "(I)Z"⟩
abbrev cX5_readLetter : ByteArray := prog_7_method_13_code
def yX5_readLetter : MethodName := ⟨RX5, "readLetter", "()Z"⟩
def RX6 : String := "QueenBelt$Question"
def TX6 : u_T := fun k => match k with
  | 0 => ("QueenBelt$Question", "words", "LQueenBelt$Words;", true)
  | 1 => ("QueenBelt$Question", "belt", "LQueenBelt$Belt;", true)
  | 2 => ("QueenBelt$Question", "steps", "[I", true)
  | 3 => ("QueenBelt$Question", "numbers", "[I", true)
  | 4 => ("QueenBelt$Question", "pile", "[J", true)
  | 5 => ("QueenBelt$Question", "length", "I", false)
  | 6 => ("QueenBelt$Question", "height", "I", false)
  | _ => ("QueenBelt$Question", "wanted", "I", false)
def tyX6 : Nat → FieldType := fun k => match k with
  | 0 => .object "QueenBelt$Words"
  | 1 => .object "QueenBelt$Belt"
  | 2 => .array .int
  | 3 => .array .int
  | 4 => .array .long
  | 5 => .int
  | 6 => .int
  | _ => .int
abbrev wsX60 : List Cond := u_ws RX6 TX6 8
theorem nmX6 : ∀ a, a < 8 → ∀ b, b < 8 → a ≠ b → (TX6 a).2.1 ≠ (TX6 b).2.1 := by decide +kernel
theorem tyX6_ok : ∀ k, k < 8 → parseFieldDescriptor (TX6 k).2.2.1 = some (tyX6 k) := by decide +kernel
abbrev cX6_init : ByteArray := prog_8_method_1_code
def yX6_init : MethodName := ⟨RX6, "<init>", "(LQueenBelt$Words;LQueenBelt$Belt;)V"⟩
abbrev cX6_read : ByteArray := prog_8_method_2_code
def yX6_read : MethodName := ⟨RX6, "read", "()Z"⟩
abbrev cX6_add : ByteArray := prog_8_method_3_code
def yX6_add : MethodName := ⟨RX6, "add", "(II)Z"⟩
abbrev cX6_stepAndAdd : ByteArray := prog_8_method_4_code
def yX6_stepAndAdd : MethodName := ⟨RX6, "stepAndAdd", "(II)Z"⟩
abbrev cX6_mayOpen : ByteArray := prog_8_method_5_code
def yX6_mayOpen : MethodName := ⟨RX6, "mayOpen", "(I)Z"⟩
abbrev cX6_readTest : ByteArray := prog_8_method_6_code
def yX6_readTest : MethodName := ⟨RX6, "readTest", "(I)Z"⟩
abbrev cX6_readBoth : ByteArray := prog_8_method_7_code
def yX6_readBoth : MethodName := ⟨RX6, "readBoth", "(I)Z"⟩
abbrev cX6_readFact : ByteArray := prog_8_method_8_code
def yX6_readFact : MethodName := ⟨RX6, "readFact", "(I)Z"⟩
abbrev cX6_readCompared : ByteArray := prog_8_method_9_code
def yX6_readCompared : MethodName := ⟨RX6, "readCompared", "(I)Z"⟩
abbrev cX6_readSum : ByteArray := prog_8_method_10_code
def yX6_readSum : MethodName := ⟨RX6, "readSum", "(I)Z"⟩
abbrev cX6_readProduct : ByteArray := prog_8_method_11_code
def yX6_readProduct : MethodName := ⟨RX6, "readProduct", "(I)Z"⟩
abbrev cX6_readPart : ByteArray := prog_8_method_12_code
def yX6_readPart : MethodName := ⟨RX6, "readPart", "(I)Z"⟩
abbrev cX6_readPair : ByteArray := prog_8_method_13_code
def yX6_readPair : MethodName := ⟨RX6, "readPair", "(I)Z"⟩
abbrev cX6_answer : ByteArray := prog_8_method_14_code
def yX6_answer : MethodName := ⟨RX6, "answer", "()J"⟩
abbrev cX6_push : ByteArray := prog_8_method_15_code
def yX6_push : MethodName := ⟨RX6, "push", "(J)V"⟩
abbrev cX6_pop : ByteArray := prog_8_method_16_code
def yX6_pop : MethodName := ⟨RX6, "pop", "()J"⟩
abbrev cX6_valueIn : ByteArray := prog_8_method_17_code
def yX6_valueIn : MethodName := ⟨RX6, "valueIn", "(I)J"⟩
abbrev cX6_ofRow : ByteArray := prog_8_method_18_code
def yX6_ofRow : MethodName := ⟨RX6, "ofRow", "(II)J"⟩
abbrev cX6_ofOne : ByteArray := prog_8_method_19_code
def yX6_ofOne : MethodName := ⟨RX6, "ofOne", "(IIJ)J"⟩
abbrev cX6_held : ByteArray := prog_8_method_20_code
def yX6_held : MethodName := ⟨RX6, "held", "(J)J"⟩
abbrev cX6_ofTwo : ByteArray := prog_8_method_21_code
def yX6_ofTwo : MethodName := ⟨RX6, "ofTwo", "(IJJ)J"⟩
def RX7 : String := "QueenBelt$Strip"
def TX7 : u_T := fun k => match k with
  | 0 => ("QueenBelt$Strip", "rows", "I", false)
  | _ => ("QueenBelt$Strip", "told", "[I", true)
def tyX7 : Nat → FieldType := fun k => match k with
  | 0 => .int
  | _ => .array .int
abbrev wsX70 : List Cond := u_ws RX7 TX7 2
theorem nmX7 : ∀ a, a < 2 → ∀ b, b < 2 → a ≠ b → (TX7 a).2.1 ≠ (TX7 b).2.1 := by decide +kernel
theorem tyX7_ok : ∀ k, k < 2 → parseFieldDescriptor (TX7 k).2.2.1 = some (tyX7 k) := by decide +kernel
abbrev cX7_init : ByteArray := prog_9_method_1_code
def yX7_init : MethodName := ⟨RX7, "<init>", "()V"⟩
abbrev cX7_take : ByteArray := prog_9_method_2_code
def yX7_take : MethodName := ⟨RX7, "take", "(LQueenBelt$Tape;II)Z"⟩
abbrev cX7_known : ByteArray := prog_9_method_3_code
def yX7_known : MethodName := ⟨RX7, "known", "(II)Z"⟩
abbrev cX7_fits : ByteArray := prog_9_method_4_code
def yX7_fits : MethodName := ⟨RX7, "fits", "(III)Z"⟩
abbrev cX7_rowsAlike : ByteArray := prog_9_method_5_code
def yX7_rowsAlike : MethodName := ⟨RX7, "rowsAlike", "(LQueenBelt$Belt;)I"⟩
abbrev cX7_cardFits : ByteArray := prog_9_method_6_code
def yX7_cardFits : MethodName := ⟨RX7, "cardFits", "(LQueenBelt$Belt;I)Z"⟩
abbrev cX7_othersFit : ByteArray := prog_9_method_7_code
def yX7_othersFit : MethodName := ⟨RX7, "othersFit", "(LQueenBelt$Belt;I)Z"⟩
abbrev cX7_fitsOtherwise : ByteArray := prog_9_method_8_code
def yX7_fitsOtherwise : MethodName := ⟨RX7, "fitsOtherwise", "(LQueenBelt$Belt;II)Z"⟩
def RX8 : String := "QueenBelt$Tape"
def TX8 : u_T := fun k => match k with
  | 0 => ("QueenBelt$Tape", "bytes", "[I", true)
  | _ => ("QueenBelt$Tape", "length", "I", false)
def tyX8 : Nat → FieldType := fun k => match k with
  | 0 => .array .int
  | _ => .int
abbrev wsX80 : List Cond := u_ws RX8 TX8 2
theorem nmX8 : ∀ a, a < 2 → ∀ b, b < 2 → a ≠ b → (TX8 a).2.1 ≠ (TX8 b).2.1 := by decide +kernel
theorem tyX8_ok : ∀ k, k < 2 → parseFieldDescriptor (TX8 k).2.2.1 = some (tyX8 k) := by decide +kernel
abbrev cX8_init : ByteArray := prog_10_method_1_code
def yX8_init : MethodName := ⟨RX8, "<init>", "()V"⟩
abbrev cX8_add : ByteArray := prog_10_method_2_code
def yX8_add : MethodName := ⟨RX8, "add", "(I)V"⟩
abbrev cX8_byteAt : ByteArray := prog_10_method_3_code
def yX8_byteAt : MethodName := ⟨RX8, "byteAt", "(I)I"⟩
def RX9 : String := "QueenBelt$Ways"
def TX9 : u_T := fun k => match k with
  | 0 => ("QueenBelt$Ways", "belt", "LQueenBelt$Belt;", true)
  | 1 => ("QueenBelt$Ways", "front", "LQueenBelt$Strip;", true)
  | 2 => ("QueenBelt$Ways", "behind", "LQueenBelt$Strip;", true)
  | 3 => ("QueenBelt$Ways", "now", "[I", true)
  | 4 => ("QueenBelt$Ways", "then", "[I", true)
  | 5 => ("QueenBelt$Ways", "patterns", "[J", true)
  | 6 => ("QueenBelt$Ways", "boundRow", "I", false)
  | _ => ("QueenBelt$Ways", "boundTurn", "I", false)
def tyX9 : Nat → FieldType := fun k => match k with
  | 0 => .object "QueenBelt$Belt"
  | 1 => .object "QueenBelt$Strip"
  | 2 => .object "QueenBelt$Strip"
  | 3 => .array .int
  | 4 => .array .int
  | 5 => .array .long
  | 6 => .int
  | _ => .int
abbrev wsX90 : List Cond := u_ws RX9 TX9 8
theorem nmX9 : ∀ a, a < 8 → ∀ b, b < 8 → a ≠ b → (TX9 a).2.1 ≠ (TX9 b).2.1 := by decide +kernel
theorem tyX9_ok : ∀ k, k < 8 → parseFieldDescriptor (TX9 k).2.2.1 = some (tyX9 k) := by decide +kernel
abbrev cX9_init : ByteArray := prog_11_method_1_code
def yX9_init : MethodName := ⟨RX9, "<init>", "(LQueenBelt$Belt;LQueenBelt$Strip;LQueenBelt$Strip;)V"⟩
abbrev cX9_inReach : ByteArray := prog_11_method_2_code
def yX9_inReach : MethodName := ⟨RX9, "inReach", "(I)Z"⟩
abbrev cX9_mayTurn : ByteArray := prog_11_method_3_code
def yX9_mayTurn : MethodName := ⟨RX9, "mayTurn", "(II)Z"⟩
abbrev cX9_shows : ByteArray := prog_11_method_4_code
def yX9_shows : MethodName := ⟨RX9, "shows", "(IIIZ)Z"⟩
abbrev cX9_count : ByteArray := prog_11_method_5_code
def yX9_count : MethodName := ⟨RX9, "count", "(IIZ)I"⟩
abbrev cX9_countRow : ByteArray := prog_11_method_6_code
def yX9_countRow : MethodName := ⟨RX9, "countRow", "(IIIZ)Z"⟩
abbrev cX9_isMeant : ByteArray := prog_11_method_7_code
def yX9_isMeant : MethodName := ⟨RX9, "isMeant", "(II)Z"⟩
abbrev cX9_number : ByteArray := prog_11_method_8_code
def yX9_number : MethodName := ⟨RX9, "number", "(IIZ)I"⟩
abbrev cX9_fewestBacks : ByteArray := prog_11_method_9_code
def yX9_fewestBacks : MethodName := ⟨RX9, "fewestBacks", "(II)I"⟩
abbrev cX9_leaveNoTwist : ByteArray := prog_11_method_10_code
def yX9_leaveNoTwist : MethodName := ⟨RX9, "leaveNoTwist", "(II)Z"⟩
abbrev cX9_barredRow : ByteArray := prog_11_method_11_code
def yX9_barredRow : MethodName := ⟨RX9, "barredRow", "(I)I"⟩
abbrev cX9_firstBarred : ByteArray := prog_11_method_12_code
def yX9_firstBarred : MethodName := ⟨RX9, "firstBarred", "()I"⟩
abbrev cX9_canBe : ByteArray := prog_11_method_13_code
def yX9_canBe : MethodName := ⟨RX9, "canBe", "(III)Z"⟩
abbrev cX9_mostRight : ByteArray := prog_11_method_14_code
def yX9_mostRight : MethodName := ⟨RX9, "mostRight", "(I)I"⟩
abbrev cX9_rightWith : ByteArray := prog_11_method_15_code
def yX9_rightWith : MethodName := ⟨RX9, "rightWith", "(III)I"⟩
abbrev cX9_fewestApart : ByteArray := prog_11_method_16_code
def yX9_fewestApart : MethodName := ⟨RX9, "fewestApart", "()I"⟩
abbrev cX9_putPattern : ByteArray := prog_11_method_17_code
def yX9_putPattern : MethodName := ⟨RX9, "putPattern", "(IJ)V"⟩
abbrev cX9_patternOf : ByteArray := prog_11_method_18_code
def yX9_patternOf : MethodName := ⟨RX9, "patternOf", "(I)J"⟩
abbrev cX9_patternsOf : ByteArray := prog_11_method_19_code
def yX9_patternsOf : MethodName := ⟨RX9, "patternsOf", "(II)J"⟩
abbrev cX9_isWay : ByteArray := prog_11_method_20_code
def yX9_isWay : MethodName := ⟨RX9, "isWay", "(III)Z"⟩
abbrev cX9_agree : ByteArray := prog_11_method_21_code
def yX9_agree : MethodName := ⟨RX9, "agree", "(II)Z"⟩
def RX10 : String := "QueenBelt$Words"
def TX10 : u_T := fun k => match k with
  | 0 => ("QueenBelt$Words", "tape", "LQueenBelt$Tape;", true)
  | 1 => ("QueenBelt$Words", "kind", "I", false)
  | 2 => ("QueenBelt$Words", "size", "I", false)
  | 3 => ("QueenBelt$Words", "next", "I", false)
  | 4 => ("QueenBelt$Words", "start", "I", false)
  | 5 => ("QueenBelt$Words", "value", "I", false)
  | 6 => ("QueenBelt$Words", "fault", "I", false)
  | _ => ("QueenBelt$Words", "place", "I", false)
def tyX10 : Nat → FieldType := fun k => match k with
  | 0 => .object "QueenBelt$Tape"
  | 1 => .int
  | 2 => .int
  | 3 => .int
  | 4 => .int
  | 5 => .int
  | 6 => .int
  | _ => .int
abbrev wsX100 : List Cond := u_ws RX10 TX10 8
theorem nmX10 : ∀ a, a < 8 → ∀ b, b < 8 → a ≠ b → (TX10 a).2.1 ≠ (TX10 b).2.1 := by decide +kernel
theorem tyX10_ok : ∀ k, k < 8 → parseFieldDescriptor (TX10 k).2.2.1 = some (tyX10 k) := by decide +kernel
abbrev cX10_init : ByteArray := prog_12_method_1_code
def yX10_init : MethodName := ⟨RX10, "<init>", "(LQueenBelt$Tape;)V"⟩
abbrev cX10_begin : ByteArray := prog_12_method_2_code
def yX10_begin : MethodName := ⟨RX10, "begin", "()V"⟩
abbrev cX10_step : ByteArray := prog_12_method_3_code
def yX10_step : MethodName := ⟨RX10, "step", "()V"⟩
abbrev cX10_kindOf : ByteArray := prog_12_method_4_code
def yX10_kindOf : MethodName := ⟨RX10, "kindOf", "(I)I"⟩
abbrev cX10_take : ByteArray := prog_12_method_5_code
def yX10_take : MethodName := ⟨RX10, "take", "(I)V"⟩
abbrev cX10_fail : ByteArray := prog_12_method_6_code
def yX10_fail : MethodName := ⟨RX10, "fail", "(II)Z"⟩
abbrev cX10_failHere : ByteArray := prog_12_method_7_code
def yX10_failHere : MethodName := ⟨RX10, "failHere", "(I)Z"⟩
abbrev cX10_ended : ByteArray := prog_12_method_8_code
def yX10_ended : MethodName := ⟨RX10, "ended", "()Z"⟩
abbrev cX10_isMark : ByteArray := prog_12_method_9_code
def yX10_isMark : MethodName := ⟨RX10, "isMark", "(C)Z"⟩
abbrev cX10_isWord : ByteArray := prog_12_method_10_code
def yX10_isWord : MethodName := ⟨RX10, "isWord", "(Ljava/lang/String;)Z"⟩
abbrev cX10_isOwnWord : ByteArray := prog_12_method_11_code
def yX10_isOwnWord : MethodName := ⟨RX10, "isOwnWord", "()Z"⟩
abbrev cX10_meansName : ByteArray := prog_12_method_12_code
def yX10_meansName : MethodName := ⟨RX10, "meansName", "()Z"⟩
abbrev cX10_isNumber : ByteArray := prog_12_method_13_code
def yX10_isNumber : MethodName := ⟨RX10, "isNumber", "()Z"⟩
abbrev cX10_mustBeName : ByteArray := prog_12_method_14_code
def yX10_mustBeName : MethodName := ⟨RX10, "mustBeName", "()Z"⟩
abbrev cX10_mustBeNumber : ByteArray := prog_12_method_15_code
def yX10_mustBeNumber : MethodName := ⟨RX10, "mustBeNumber", "()Z"⟩
abbrev cX10_takeMark : ByteArray := prog_12_method_16_code
def yX10_takeMark : MethodName := ⟨RX10, "takeMark", "(C)Z"⟩
abbrev cX10_takeWord : ByteArray := prog_12_method_17_code
def yX10_takeWord : MethodName := ⟨RX10, "takeWord", "(Ljava/lang/String;)Z"⟩
def RX11 : String := "QueenBelt"
def TX11 : u_T := fun k => match k with
  | 0 => ("QueenBelt", "tape", "LQueenBelt$Tape;", true)
  | 1 => ("QueenBelt", "words", "LQueenBelt$Words;", true)
  | 2 => ("QueenBelt", "told", "LQueenBelt$Loom;", true)
  | 3 => ("QueenBelt", "draft", "LQueenBelt$Loom;", true)
  | 4 => ("QueenBelt", "loomText", "LQueenBelt$LoomText;", true)
  | 5 => ("QueenBelt", "cloth", "LQueenBelt$Belt;", true)
  | 6 => ("QueenBelt", "acts", "LQueenBelt$Acts;", true)
  | 7 => ("QueenBelt", "inFront", "LQueenBelt$Strip;", true)
  | 8 => ("QueenBelt", "inBack", "LQueenBelt$Strip;", true)
  | 9 => ("QueenBelt", "ways", "LQueenBelt$Ways;", true)
  | 10 => ("QueenBelt", "question", "LQueenBelt$Question;", true)
  | 11 => ("QueenBelt", "written", "LQueenBelt$Image;", true)
  | _ => ("QueenBelt", "stoppedAt", "I", false)
def tyX11 : Nat → FieldType := fun k => match k with
  | 0 => .object "QueenBelt$Tape"
  | 1 => .object "QueenBelt$Words"
  | 2 => .object "QueenBelt$Loom"
  | 3 => .object "QueenBelt$Loom"
  | 4 => .object "QueenBelt$LoomText"
  | 5 => .object "QueenBelt$Belt"
  | 6 => .object "QueenBelt$Acts"
  | 7 => .object "QueenBelt$Strip"
  | 8 => .object "QueenBelt$Strip"
  | 9 => .object "QueenBelt$Ways"
  | 10 => .object "QueenBelt$Question"
  | 11 => .object "QueenBelt$Image"
  | _ => .int
abbrev wsX110 : List Cond := u_ws RX11 TX11 13
theorem nmX11 : ∀ a, a < 13 → ∀ b, b < 13 → a ≠ b → (TX11 a).2.1 ≠ (TX11 b).2.1 := by decide +kernel
theorem tyX11_ok : ∀ k, k < 13 → parseFieldDescriptor (TX11 k).2.2.1 = some (tyX11 k) := by decide +kernel
abbrev cX11_init : ByteArray := prog_1_method_1_code
def yX11_init : MethodName := ⟨RX11, "<init>", "()V"⟩
abbrev cX11_feed : ByteArray := prog_1_method_2_code
def yX11_feed : MethodName := ⟨RX11, "feed", "(IIIII)I"⟩
abbrev cX11_end : ByteArray := prog_1_method_3_code
def yX11_end : MethodName := ⟨RX11, "end", "(I)Z"⟩
abbrev cX11_text : ByteArray := prog_1_method_4_code
def yX11_text : MethodName := ⟨RX11, "text", "()I"⟩
abbrev cX11_fault : ByteArray := prog_1_method_5_code
def yX11_fault : MethodName := ⟨RX11, "fault", "(I)I"⟩
abbrev cX11_loom : ByteArray := prog_1_method_6_code
def yX11_loom : MethodName := ⟨RX11, "loom", "(I)I"⟩
abbrev cX11_letter : ByteArray := prog_1_method_7_code
def yX11_letter : MethodName := ⟨RX11, "letter", "(III)I"⟩
abbrev cX11_card : ByteArray := prog_1_method_8_code
def yX11_card : MethodName := ⟨RX11, "card", "(II)I"⟩
abbrev cX11_pack : ByteArray := prog_1_method_9_code
def yX11_pack : MethodName := ⟨RX11, "pack", "(II)I"⟩
abbrev cX11_belt : ByteArray := prog_1_method_10_code
def yX11_belt : MethodName := ⟨RX11, "belt", "(III)I"⟩
abbrev cX11_shown : ByteArray := prog_1_method_11_code
def yX11_shown : MethodName := ⟨RX11, "shown", "(IZ)I"⟩
abbrev cX11_turn : ByteArray := prog_1_method_12_code
def yX11_turn : MethodName := ⟨RX11, "turn", "(II)I"⟩
abbrev cX11_unweave : ByteArray := prog_1_method_13_code
def yX11_unweave : MethodName := ⟨RX11, "unweave", "()Z"⟩
abbrev cX11_shift : ByteArray := prog_1_method_14_code
def yX11_shift : MethodName := ⟨RX11, "shift", "(I)Z"⟩
abbrev cX11_string : ByteArray := prog_1_method_15_code
def yX11_string : MethodName := ⟨RX11, "string", "(I)Z"⟩
abbrev cX11_undo : ByteArray := prog_1_method_16_code
def yX11_undo : MethodName := ⟨RX11, "undo", "()Z"⟩
abbrev cX11_strip : ByteArray := prog_1_method_17_code
def yX11_strip : MethodName := ⟨RX11, "strip", "(Z)I"⟩
abbrev cX11_woven : ByteArray := prog_1_method_18_code
def yX11_woven : MethodName := ⟨RX11, "woven", "(III)I"⟩
abbrev cX11_barred : ByteArray := prog_1_method_19_code
def yX11_barred : MethodName := ⟨RX11, "barred", "(I)I"⟩
abbrev cX11_apart : ByteArray := prog_1_method_20_code
def yX11_apart : MethodName := ⟨RX11, "apart", "()I"⟩
abbrev cX11_both : ByteArray := prog_1_method_21_code
def yX11_both : MethodName := ⟨RX11, "both", "(II)I"⟩
abbrev cX11_nearest : ByteArray := prog_1_method_22_code
def yX11_nearest : MethodName := ⟨RX11, "nearest", "(I)I"⟩
abbrev cX11_wrong : ByteArray := prog_1_method_23_code
def yX11_wrong : MethodName := ⟨RX11, "wrong", "(I)I"⟩
abbrev cX11_mend : ByteArray := prog_1_method_24_code
def yX11_mend : MethodName := ⟨RX11, "mend", "()I"⟩
abbrev cX11_sure : ByteArray := prog_1_method_25_code
def yX11_sure : MethodName := ⟨RX11, "sure", "(II)I"⟩
abbrev cX11_ask : ByteArray := prog_1_method_26_code
def yX11_ask : MethodName := ⟨RX11, "ask", "()J"⟩
abbrev cX11_image : ByteArray := prog_1_method_27_code
def yX11_image : MethodName := ⟨RX11, "image", "()I"⟩
abbrev cX11_octet : ByteArray := prog_1_method_28_code
def yX11_octet : MethodName := ⟨RX11, "octet", "(I)I"⟩
abbrev cX11_on : ByteArray := prog_1_method_29_code
def yX11_on : MethodName := ⟨RX11, "on", "()Z"⟩
def RX12 : String := "QueenBeltModel"
def TX12 : u_T := fun k => match k with
  | 0 => ("QueenBeltModel", "tape", "[I", true)
  | 1 => ("QueenBeltModel", "taped", "I", false)
  | 2 => ("QueenBeltModel", "at", "I", false)
  | 3 => ("QueenBeltModel", "end", "I", false)
  | 4 => ("QueenBeltModel", "ended", "I", false)
  | 5 => ("QueenBeltModel", "bad", "I", false)
  | 6 => ("QueenBeltModel", "badPlace", "I", false)
  | 7 => ("QueenBeltModel", "fault", "I", false)
  | 8 => ("QueenBeltModel", "faultPlace", "I", false)
  | 9 => ("QueenBeltModel", "colourWord", "[C", true)
  | 10 => ("QueenBeltModel", "cardWord", "[C", true)
  | 11 => ("QueenBeltModel", "strungWord", "[C", true)
  | 12 => ("QueenBeltModel", "sWord", "[C", true)
  | 13 => ("QueenBeltModel", "zWord", "[C", true)
  | 14 => ("QueenBeltModel", "packWord", "[C", true)
  | 15 => ("QueenBeltModel", "twistWord", "[C", true)
  | 16 => ("QueenBeltModel", "weaveWord", "[C", true)
  | 17 => ("QueenBeltModel", "onWord", "[C", true)
  | 18 => ("QueenBeltModel", "backWord", "[C", true)
  | 19 => ("QueenBeltModel", "stillWord", "[C", true)
  | 20 => ("QueenBeltModel", "twiceWord", "[C", true)
  | 21 => ("QueenBeltModel", "namePlace", "I", false)
  | 22 => ("QueenBeltModel", "many", "[I", true)
  | 23 => ("QueenBeltModel", "names", "[J", true)
  | 24 => ("QueenBeltModel", "cards", "[I", true)
  | 25 => ("QueenBeltModel", "packs", "[I", true)
  | 26 => ("QueenBeltModel", "twists", "[I", true)
  | 27 => ("QueenBeltModel", "letterHow", "[I", true)
  | 28 => ("QueenBeltModel", "letterPack", "[I", true)
  | 29 => ("QueenBeltModel", "letters", "I", false)
  | 30 => ("QueenBeltModel", "lettersNow", "I", false)
  | 31 => ("QueenBeltModel", "isWoven", "Z", false)
  | 32 => ("QueenBeltModel", "statements", "I", false)
  | 33 => ("QueenBeltModel", "openFrom", "[I", true)
  | 34 => ("QueenBeltModel", "open", "I", false)
  | 35 => ("QueenBeltModel", "barredLetter", "I", false)
  | 36 => ("QueenBeltModel", "turnOf", "[I", true)
  | 37 => ("QueenBeltModel", "rows", "I", false)
  | 38 => ("QueenBeltModel", "kept", "[I", true)
  | 39 => ("QueenBeltModel", "undoable", "I", false)
  | 40 => ("QueenBeltModel", "newest", "I", false)
  | 41 => ("QueenBeltModel", "strips", "[I", true)
  | 42 => ("QueenBeltModel", "stripAt", "[I", true)
  | 43 => ("QueenBeltModel", "lastTwist", "I", false)
  | 44 => ("QueenBeltModel", "isWayOf", "[Z", true)
  | 45 => ("QueenBeltModel", "firstAsked", "[C", true)
  | 46 => ("QueenBeltModel", "lastAsked", "[C", true)
  | 47 => ("QueenBeltModel", "oftenAsked", "[C", true)
  | 48 => ("QueenBeltModel", "totalAsked", "[C", true)
  | 49 => ("QueenBeltModel", "mostAsked", "[C", true)
  | 50 => ("QueenBeltModel", "leastAsked", "[C", true)
  | 51 => ("QueenBeltModel", "notAsked", "[C", true)
  | 52 => ("QueenBeltModel", "andAsked", "[C", true)
  | 53 => ("QueenBeltModel", "orAsked", "[C", true)
  | 54 => ("QueenBeltModel", "allAsked", "[C", true)
  | 55 => ("QueenBeltModel", "minAsked", "[C", true)
  | 56 => ("QueenBeltModel", "maxAsked", "[C", true)
  | 57 => ("QueenBeltModel", "rowAsked", "[C", true)
  | 58 => ("QueenBeltModel", "backAsked", "[C", true)
  | 59 => ("QueenBeltModel", "stillAsked", "[C", true)
  | 60 => ("QueenBeltModel", "frontAsked", "[C", true)
  | 61 => ("QueenBeltModel", "behindAsked", "[C", true)
  | 62 => ("QueenBeltModel", "slantAsked", "[C", true)
  | 63 => ("QueenBeltModel", "twistAsked", "[C", true)
  | 64 => ("QueenBeltModel", "qCodes", "[I", true)
  | 65 => ("QueenBeltModel", "qCoded", "I", false)
  | 66 => ("QueenBeltModel", "qWait", "[I", true)
  | 67 => ("QueenBeltModel", "qWaits", "I", false)
  | 68 => ("QueenBeltModel", "qOpened", "I", false)
  | 69 => ("QueenBeltModel", "qBase", "I", false)
  | 70 => ("QueenBeltModel", "qPile", "[J", true)
  | 71 => ("QueenBeltModel", "qPiled", "I", false)
  | 72 => ("QueenBeltModel", "qAnswer", "J", false)
  | 73 => ("QueenBeltModel", "qIsNew", "Z", false)
  | 74 => ("QueenBeltModel", "octet", "[I", true)
  | _ => ("QueenBeltModel", "octets", "I", false)
def tyX12 : Nat → FieldType := fun k => match k with
  | 0 => .array .int
  | 1 => .int
  | 2 => .int
  | 3 => .int
  | 4 => .int
  | 5 => .int
  | 6 => .int
  | 7 => .int
  | 8 => .int
  | 9 => .array .char
  | 10 => .array .char
  | 11 => .array .char
  | 12 => .array .char
  | 13 => .array .char
  | 14 => .array .char
  | 15 => .array .char
  | 16 => .array .char
  | 17 => .array .char
  | 18 => .array .char
  | 19 => .array .char
  | 20 => .array .char
  | 21 => .int
  | 22 => .array .int
  | 23 => .array .long
  | 24 => .array .int
  | 25 => .array .int
  | 26 => .array .int
  | 27 => .array .int
  | 28 => .array .int
  | 29 => .int
  | 30 => .int
  | 31 => .boolean
  | 32 => .int
  | 33 => .array .int
  | 34 => .int
  | 35 => .int
  | 36 => .array .int
  | 37 => .int
  | 38 => .array .int
  | 39 => .int
  | 40 => .int
  | 41 => .array .int
  | 42 => .array .int
  | 43 => .int
  | 44 => .array .boolean
  | 45 => .array .char
  | 46 => .array .char
  | 47 => .array .char
  | 48 => .array .char
  | 49 => .array .char
  | 50 => .array .char
  | 51 => .array .char
  | 52 => .array .char
  | 53 => .array .char
  | 54 => .array .char
  | 55 => .array .char
  | 56 => .array .char
  | 57 => .array .char
  | 58 => .array .char
  | 59 => .array .char
  | 60 => .array .char
  | 61 => .array .char
  | 62 => .array .char
  | 63 => .array .char
  | 64 => .array .int
  | 65 => .int
  | 66 => .array .int
  | 67 => .int
  | 68 => .int
  | 69 => .int
  | 70 => .array .long
  | 71 => .int
  | 72 => .long
  | 73 => .boolean
  | 74 => .array .int
  | _ => .int
abbrev wsX120 : List Cond := u_ws RX12 TX12 76
theorem nmX12 : ∀ a, a < 76 → ∀ b, b < 76 → a ≠ b → (TX12 a).2.1 ≠ (TX12 b).2.1 := by decide +kernel
theorem tyX12_ok : ∀ k, k < 76 → parseFieldDescriptor (TX12 k).2.2.1 = some (tyX12 k) := by decide +kernel
abbrev cX12_init : ByteArray := prog_14_method_1_code
def yX12_init : MethodName := ⟨RX12, "<init>", "()V"⟩
abbrev cX12_isIn : ByteArray := prog_14_method_2_code
def yX12_isIn : MethodName := ⟨RX12, "isIn", "(JJJ)Z"⟩
abbrev cX12_feed : ByteArray := prog_14_method_3_code
def yX12_feed : MethodName := ⟨RX12, "feed", "(IIIII)I"⟩
abbrev cX12_end : ByteArray := prog_14_method_4_code
def yX12_end : MethodName := ⟨RX12, "end", "(I)Z"⟩
abbrev cX12_fail : ByteArray := prog_14_method_5_code
def yX12_fail : MethodName := ⟨RX12, "fail", "(II)V"⟩
abbrev cX12_isLetter : ByteArray := prog_14_method_6_code
def yX12_isLetter : MethodName := ⟨RX12, "isLetter", "(I)Z"⟩
abbrev cX12_isDigit : ByteArray := prog_14_method_7_code
def yX12_isDigit : MethodName := ⟨RX12, "isDigit", "(I)Z"⟩
abbrev cX12_look : ByteArray := prog_14_method_8_code
def yX12_look : MethodName := ⟨RX12, "look", "()I"⟩
abbrev cX12_isHere : ByteArray := prog_14_method_9_code
def yX12_isHere : MethodName := ⟨RX12, "isHere", "([C)Z"⟩
abbrev cX12_takes : ByteArray := prog_14_method_10_code
def yX12_takes : MethodName := ⟨RX12, "takes", "([C)Z"⟩
abbrev cX12_asks : ByteArray := prog_14_method_11_code
def yX12_asks : MethodName := ⟨RX12, "asks", "([C)V"⟩
abbrev cX12_takesSign : ByteArray := prog_14_method_12_code
def yX12_takesSign : MethodName := ⟨RX12, "takesSign", "(I)Z"⟩
abbrev cX12_asksSign : ByteArray := prog_14_method_13_code
def yX12_asksSign : MethodName := ⟨RX12, "asksSign", "(I)V"⟩
abbrev cX12_number : ByteArray := prog_14_method_14_code
def yX12_number : MethodName := ⟨RX12, "number", "(II)I"⟩
abbrev cX12_isOwnHere : ByteArray := prog_14_method_15_code
def yX12_isOwnHere : MethodName := ⟨RX12, "isOwnHere", "()Z"⟩
abbrev cX12_name : ByteArray := prog_14_method_16_code
def yX12_name : MethodName := ⟨RX12, "name", "()J"⟩
abbrev cX12_isFull : ByteArray := prog_14_method_17_code
def yX12_isFull : MethodName := ⟨RX12, "isFull", "(III)Z"⟩
abbrev cX12_nameOf : ByteArray := prog_14_method_18_code
def yX12_nameOf : MethodName := ⟨RX12, "nameOf", "(IJ)I"⟩
abbrev cX12_newName : ByteArray := prog_14_method_19_code
def yX12_newName : MethodName := ⟨RX12, "newName", "()J"⟩
abbrev cX12_oneOf : ByteArray := prog_14_method_20_code
def yX12_oneOf : MethodName := ⟨RX12, "oneOf", "(I)I"⟩
abbrev cX12_colourTold : ByteArray := prog_14_method_21_code
def yX12_colourTold : MethodName := ⟨RX12, "colourTold", "(I)V"⟩
abbrev cX12_cardTold : ByteArray := prog_14_method_22_code
def yX12_cardTold : MethodName := ⟨RX12, "cardTold", "(I)V"⟩
abbrev cX12_packTold : ByteArray := prog_14_method_23_code
def yX12_packTold : MethodName := ⟨RX12, "packTold", "(I)V"⟩
abbrev cX12_opens : ByteArray := prog_14_method_24_code
def yX12_opens : MethodName := ⟨RX12, "opens", "(II)V"⟩
abbrev cX12_letterIs : ByteArray := prog_14_method_25_code
def yX12_letterIs : MethodName := ⟨RX12, "letterIs", "(II)V"⟩
abbrev cX12_turnEnds : ByteArray := prog_14_method_26_code
def yX12_turnEnds : MethodName := ⟨RX12, "turnEnds", "()V"⟩
abbrev cX12_isNameAhead : ByteArray := prog_14_method_27_code
def yX12_isNameAhead : MethodName := ⟨RX12, "isNameAhead", "()Z"⟩
abbrev cX12_isPartTold : ByteArray := prog_14_method_28_code
def yX12_isPartTold : MethodName := ⟨RX12, "isPartTold", "()Z"⟩
abbrev cX12_isTurnAhead : ByteArray := prog_14_method_29_code
def yX12_isTurnAhead : MethodName := ⟨RX12, "isTurnAhead", "()Z"⟩
abbrev cX12_turnTold : ByteArray := prog_14_method_30_code
def yX12_turnTold : MethodName := ⟨RX12, "turnTold", "()V"⟩
abbrev cX12_weaveTold : ByteArray := prog_14_method_31_code
def yX12_weaveTold : MethodName := ⟨RX12, "weaveTold", "(I)V"⟩
abbrev cX12_statementTold : ByteArray := prog_14_method_32_code
def yX12_statementTold : MethodName := ⟨RX12, "statementTold", "()V"⟩
abbrev cX12_text : ByteArray := prog_14_method_33_code
def yX12_text : MethodName := ⟨RX12, "text", "()I"⟩
abbrev cX12_stands : ByteArray := prog_14_method_34_code
def yX12_stands : MethodName := ⟨RX12, "stands", "()V"⟩
abbrev cX12_fault : ByteArray := prog_14_method_35_code
def yX12_fault : MethodName := ⟨RX12, "fault", "(I)I"⟩
abbrev cX12_colourMany : ByteArray := prog_14_method_36_code
def yX12_colourMany : MethodName := ⟨RX12, "colourMany", "()I"⟩
abbrev cX12_cardMany : ByteArray := prog_14_method_37_code
def yX12_cardMany : MethodName := ⟨RX12, "cardMany", "()I"⟩
abbrev cX12_packMany : ByteArray := prog_14_method_38_code
def yX12_packMany : MethodName := ⟨RX12, "packMany", "()I"⟩
abbrev cX12_isCard : ByteArray := prog_14_method_39_code
def yX12_isCard : MethodName := ⟨RX12, "isCard", "(I)Z"⟩
abbrev cX12_isPack : ByteArray := prog_14_method_40_code
def yX12_isPack : MethodName := ⟨RX12, "isPack", "(I)Z"⟩
abbrev cX12_moved : ByteArray := prog_14_method_41_code
def yX12_moved : MethodName := ⟨RX12, "moved", "(I)I"⟩
abbrev cX12_turnBy : ByteArray := prog_14_method_42_code
def yX12_turnBy : MethodName := ⟨RX12, "turnBy", "(III)I"⟩
abbrev cX12_twistAt : ByteArray := prog_14_method_43_code
def yX12_twistAt : MethodName := ⟨RX12, "twistAt", "(II)I"⟩
abbrev cX12_apartOf : ByteArray := prog_14_method_44_code
def yX12_apartOf : MethodName := ⟨RX12, "apartOf", "(I)I"⟩
abbrev cX12_canTurn : ByteArray := prog_14_method_45_code
def yX12_canTurn : MethodName := ⟨RX12, "canTurn", "(II)Z"⟩
abbrev cX12_turns0 : ByteArray := prog_14_method_46_code
def yX12_turns0 : MethodName := ⟨RX12, "turns0", "(II)V"⟩
abbrev cX12_cornerBy : ByteArray := prog_14_method_47_code
def yX12_cornerBy : MethodName := ⟨RX12, "cornerBy", "(I)I"⟩
abbrev cX12_threadOf : ByteArray := prog_14_method_48_code
def yX12_threadOf : MethodName := ⟨RX12, "threadOf", "(II)I"⟩
abbrev cX12_frontOf : ByteArray := prog_14_method_49_code
def yX12_frontOf : MethodName := ⟨RX12, "frontOf", "(IIZ)I"⟩
abbrev cX12_slantOf : ByteArray := prog_14_method_50_code
def yX12_slantOf : MethodName := ⟨RX12, "slantOf", "(II)I"⟩
abbrev cX12_leftAll : ByteArray := prog_14_method_51_code
def yX12_leftAll : MethodName := ⟨RX12, "leftAll", "()I"⟩
abbrev cX12_areRowsAlike : ByteArray := prog_14_method_52_code
def yX12_areRowsAlike : MethodName := ⟨RX12, "areRowsAlike", "(II)Z"⟩
abbrev cX12_isRhyme : ByteArray := prog_14_method_53_code
def yX12_isRhyme : MethodName := ⟨RX12, "isRhyme", "(I)Z"⟩
abbrev cX12_rhyme : ByteArray := prog_14_method_54_code
def yX12_rhyme : MethodName := ⟨RX12, "rhyme", "()I"⟩
abbrev cX12_joins : ByteArray := prog_14_method_55_code
def yX12_joins : MethodName := ⟨RX12, "joins", "()I"⟩
abbrev cX12_loom : ByteArray := prog_14_method_56_code
def yX12_loom : MethodName := ⟨RX12, "loom", "(I)I"⟩
abbrev cX12_letter : ByteArray := prog_14_method_57_code
def yX12_letter : MethodName := ⟨RX12, "letter", "(III)I"⟩
abbrev cX12_backOf : ByteArray := prog_14_method_58_code
def yX12_backOf : MethodName := ⟨RX12, "backOf", "(I)I"⟩
abbrev cX12_card : ByteArray := prog_14_method_59_code
def yX12_card : MethodName := ⟨RX12, "card", "(II)I"⟩
abbrev cX12_pack : ByteArray := prog_14_method_60_code
def yX12_pack : MethodName := ⟨RX12, "pack", "(II)I"⟩
abbrev cX12_belt : ByteArray := prog_14_method_61_code
def yX12_belt : MethodName := ⟨RX12, "belt", "(III)I"⟩
abbrev cX12_shown : ByteArray := prog_14_method_62_code
def yX12_shown : MethodName := ⟨RX12, "shown", "(IZ)I"⟩
abbrev cX12_keeps : ByteArray := prog_14_method_63_code
def yX12_keeps : MethodName := ⟨RX12, "keeps", "()V"⟩
abbrev cX12_undo : ByteArray := prog_14_method_64_code
def yX12_undo : MethodName := ⟨RX12, "undo", "()Z"⟩
abbrev cX12_turn : ByteArray := prog_14_method_65_code
def yX12_turn : MethodName := ⟨RX12, "turn", "(II)I"⟩
abbrev cX12_unweave : ByteArray := prog_14_method_66_code
def yX12_unweave : MethodName := ⟨RX12, "unweave", "()Z"⟩
abbrev cX12_shift : ByteArray := prog_14_method_67_code
def yX12_shift : MethodName := ⟨RX12, "shift", "(I)Z"⟩
abbrev cX12_string : ByteArray := prog_14_method_68_code
def yX12_string : MethodName := ⟨RX12, "string", "(I)Z"⟩
abbrev cX12_strip : ByteArray := prog_14_method_69_code
def yX12_strip : MethodName := ⟨RX12, "strip", "(Z)I"⟩
abbrev cX12_fits : ByteArray := prog_14_method_70_code
def yX12_fits : MethodName := ⟨RX12, "fits", "(IIII)Z"⟩
abbrev cX12_isWay : ByteArray := prog_14_method_71_code
def yX12_isWay : MethodName := ⟨RX12, "isWay", "(IIIIZ)Z"⟩
abbrev cX12_bits : ByteArray := prog_14_method_72_code
def yX12_bits : MethodName := ⟨RX12, "bits", "(I)I"⟩
abbrev cX12_isCorner : ByteArray := prog_14_method_73_code
def yX12_isCorner : MethodName := ⟨RX12, "isCorner", "(I)Z"⟩
abbrev cX12_firstOf : ByteArray := prog_14_method_74_code
def yX12_firstOf : MethodName := ⟨RX12, "firstOf", "(I)I"⟩
abbrev cX12_lastOf : ByteArray := prog_14_method_75_code
def yX12_lastOf : MethodName := ⟨RX12, "lastOf", "(I)I"⟩
abbrev cX12_woven : ByteArray := prog_14_method_76_code
def yX12_woven : MethodName := ⟨RX12, "woven", "(III)I"⟩
abbrev cX12_hasWays : ByteArray := prog_14_method_77_code
def yX12_hasWays : MethodName := ⟨RX12, "hasWays", "(II)Z"⟩
abbrev cX12_barred : ByteArray := prog_14_method_78_code
def yX12_barred : MethodName := ⟨RX12, "barred", "(I)I"⟩
abbrev cX12_hasLike : ByteArray := prog_14_method_79_code
def yX12_hasLike : MethodName := ⟨RX12, "hasLike", "(III)Z"⟩
abbrev cX12_haveLike : ByteArray := prog_14_method_80_code
def yX12_haveLike : MethodName := ⟨RX12, "haveLike", "(II)Z"⟩
abbrev cX12_apart : ByteArray := prog_14_method_81_code
def yX12_apart : MethodName := ⟨RX12, "apart", "()I"⟩
abbrev cX12_both : ByteArray := prog_14_method_82_code
def yX12_both : MethodName := ⟨RX12, "both", "(II)I"⟩
abbrev cX12_rightBy : ByteArray := prog_14_method_83_code
def yX12_rightBy : MethodName := ⟨RX12, "rightBy", "(II)I"⟩
abbrev cX12_nearestOf : ByteArray := prog_14_method_84_code
def yX12_nearestOf : MethodName := ⟨RX12, "nearestOf", "(I)I"⟩
abbrev cX12_nearest : ByteArray := prog_14_method_85_code
def yX12_nearest : MethodName := ⟨RX12, "nearest", "(I)I"⟩
abbrev cX12_looks : ByteArray := prog_14_method_86_code
def yX12_looks : MethodName := ⟨RX12, "looks", "(II)Z"⟩
abbrev cX12_isWrong : ByteArray := prog_14_method_87_code
def yX12_isWrong : MethodName := ⟨RX12, "isWrong", "(II)Z"⟩
abbrev cX12_wrong : ByteArray := prog_14_method_88_code
def yX12_wrong : MethodName := ⟨RX12, "wrong", "(I)I"⟩
abbrev cX12_isRowRight : ByteArray := prog_14_method_89_code
def yX12_isRowRight : MethodName := ⟨RX12, "isRowRight", "(I)Z"⟩
abbrev cX12_mend : ByteArray := prog_14_method_90_code
def yX12_mend : MethodName := ⟨RX12, "mend", "()I"⟩
abbrev cX12_sure : ByteArray := prog_14_method_91_code
def yX12_sure : MethodName := ⟨RX12, "sure", "(II)I"⟩
abbrev cX12_qCode : ByteArray := prog_14_method_92_code
def yX12_qCode : MethodName := ⟨RX12, "qCode", "(I)V"⟩
abbrev cX12_qOpens : ByteArray := prog_14_method_93_code
def yX12_qOpens : MethodName := ⟨RX12, "qOpens", "(II)V"⟩
abbrev cX12_qIsOn : ByteArray := prog_14_method_94_code
def yX12_qIsOn : MethodName := ⟨RX12, "qIsOn", "(I)Z"⟩
abbrev cX12_qDrops : ByteArray := prog_14_method_95_code
def yX12_qDrops : MethodName := ⟨RX12, "qDrops", "()V"⟩
abbrev cX12_qIsBracket : ByteArray := prog_14_method_96_code
def yX12_qIsBracket : MethodName := ⟨RX12, "qIsBracket", "(I)Z"⟩
abbrev cX12_qBracket : ByteArray := prog_14_method_97_code
def yX12_qBracket : MethodName := ⟨RX12, "qBracket", "()I"⟩
abbrev cX12_qDropsToBracket : ByteArray := prog_14_method_98_code
def yX12_qDropsToBracket : MethodName := ⟨RX12, "qDropsToBracket", "()V"⟩
abbrev cX12_qWordHere : ByteArray := prog_14_method_99_code
def yX12_qWordHere : MethodName := ⟨RX12, "qWordHere", "()I"⟩
abbrev cX12_qWordOf : ByteArray := prog_14_method_100_code
def yX12_qWordOf : MethodName := ⟨RX12, "qWordOf", "(II)I"⟩
abbrev cX12_qAsksWord : ByteArray := prog_14_method_101_code
def yX12_qAsksWord : MethodName := ⟨RX12, "qAsksWord", "(I)V"⟩
abbrev cX12_qEndsPart : ByteArray := prog_14_method_102_code
def yX12_qEndsPart : MethodName := ⟨RX12, "qEndsPart", "()V"⟩
abbrev cX12_qPartTold : ByteArray := prog_14_method_103_code
def yX12_qPartTold : MethodName := ⟨RX12, "qPartTold", "()V"⟩
abbrev cX12_qGoesOn : ByteArray := prog_14_method_104_code
def yX12_qGoesOn : MethodName := ⟨RX12, "qGoesOn", "()Z"⟩
abbrev cX12_qSums : ByteArray := prog_14_method_105_code
def yX12_qSums : MethodName := ⟨RX12, "qSums", "()V"⟩
abbrev cX12_qFact : ByteArray := prog_14_method_106_code
def yX12_qFact : MethodName := ⟨RX12, "qFact", "()V"⟩
abbrev cX12_qHasSquare : ByteArray := prog_14_method_107_code
def yX12_qHasSquare : MethodName := ⟨RX12, "qHasSquare", "()Z"⟩
abbrev cX12_qDropsNots : ByteArray := prog_14_method_108_code
def yX12_qDropsNots : MethodName := ⟨RX12, "qDropsNots", "()V"⟩
abbrev cX12_qTest : ByteArray := prog_14_method_109_code
def yX12_qTest : MethodName := ⟨RX12, "qTest", "()V"⟩
abbrev cX12_qGoesOnTest : ByteArray := prog_14_method_110_code
def yX12_qGoesOnTest : MethodName := ⟨RX12, "qGoesOnTest", "()Z"⟩
abbrev cX12_qClip : ByteArray := prog_14_method_111_code
def yX12_qClip : MethodName := ⟨RX12, "qClip", "(J)J"⟩
abbrev cX12_qFloor : ByteArray := prog_14_method_112_code
def yX12_qFloor : MethodName := ⟨RX12, "qFloor", "(JJ)J"⟩
abbrev cX12_qPuts : ByteArray := prog_14_method_113_code
def yX12_qPuts : MethodName := ⟨RX12, "qPuts", "(J)V"⟩
abbrev cX12_qJoins : ByteArray := prog_14_method_114_code
def yX12_qJoins : MethodName := ⟨RX12, "qJoins", "(I)V"⟩
abbrev cX12_qPartOf : ByteArray := prog_14_method_115_code
def yX12_qPartOf : MethodName := ⟨RX12, "qPartOf", "(II)J"⟩
abbrev cX12_qOf : ByteArray := prog_14_method_116_code
def yX12_qOf : MethodName := ⟨RX12, "qOf", "(IJI)J"⟩
abbrev cX12_qTold : ByteArray := prog_14_method_117_code
def yX12_qTold : MethodName := ⟨RX12, "qTold", "(I)J"⟩
abbrev cX12_qKind : ByteArray := prog_14_method_118_code
def yX12_qKind : MethodName := ⟨RX12, "qKind", "()I"⟩
abbrev cX12_qTakes : ByteArray := prog_14_method_119_code
def yX12_qTakes : MethodName := ⟨RX12, "qTakes", "(IJI)V"⟩
abbrev cX12_ask : ByteArray := prog_14_method_120_code
def yX12_ask : MethodName := ⟨RX12, "ask", "()J"⟩
abbrev cX12_qTurned : ByteArray := prog_14_method_121_code
def yX12_qTurned : MethodName := ⟨RX12, "qTurned", "(II)J"⟩
abbrev cX12_checked : ByteArray := prog_14_method_122_code
def yX12_checked : MethodName := ⟨RX12, "checked", "([II)I"⟩
abbrev cX12_image : ByteArray := prog_14_method_123_code
def yX12_image : MethodName := ⟨RX12, "image", "()I"⟩
abbrev cX12_octet : ByteArray := prog_14_method_124_code
def yX12_octet : MethodName := ⟨RX12, "octet", "(I)I"⟩
abbrev cX12_isTold : ByteArray := prog_14_method_125_code
def yX12_isTold : MethodName := ⟨RX12, "isTold", "(I)Z"⟩
abbrev cX12_on : ByteArray := prog_14_method_126_code
def yX12_on : MethodName := ⟨RX12, "on", "()Z"⟩
def RJ6 : String := "java/lang/Integer"
def TJ6 : u_T := fun k => match k with
  | _ => ("", "", "", false)
abbrev cJ6_bitCount_0f7a4 : ByteArray := prog_15_method_49_code
def yJ6_bitCount_0f7a4 : MethodName := ⟨RJ6, "bitCount", "(I)I"⟩
def RJ9 : String := "java/lang/Math"
def TJ9 : u_T := fun k => match k with
  | _ => ("", "", "", false)
abbrev cJ9_floorDiv_f86c9 : ByteArray := prog_16_method_49_code
def yJ9_floorDiv_f86c9 : MethodName := ⟨RJ9, "floorDiv", "(JJ)J"⟩
abbrev cJ9_abs_0f7a4 : ByteArray := prog_16_method_59_code
def yJ9_abs_0f7a4 : MethodName := ⟨RJ9, "abs", "(I)I"⟩
abbrev cJ9_max_7cf53 : ByteArray := prog_16_method_65_code
def yJ9_max_7cf53 : MethodName := ⟨RJ9, "max", "(II)I"⟩
abbrev cJ9_max_f86c9 : ByteArray := prog_16_method_66_code
def yJ9_max_f86c9 : MethodName := ⟨RJ9, "max", "(JJ)J"⟩
abbrev cJ9_min_7cf53 : ByteArray := prog_16_method_69_code
def yJ9_min_7cf53 : MethodName := ⟨RJ9, "min", "(II)I"⟩
abbrev cJ9_min_f86c9 : ByteArray := prog_16_method_70_code
def yJ9_min_f86c9 : MethodName := ⟨RJ9, "min", "(JJ)J"⟩
def RJ0 : String := "java/lang/String"
def TJ0 : u_T := fun k => match k with
  | _ => ("", "", "", false)
abbrev cJ0_length_8abf5 : ByteArray := prog_17_method_54_code
def yJ0_length_8abf5 : MethodName := ⟨RJ0, "length", "()I"⟩
abbrev cJ0_charAt_5068e : ByteArray := prog_17_method_56_code
def yJ0_charAt_5068e : MethodName := ⟨RJ0, "charAt", "(I)C"⟩
abbrev cJ0_coder_7d493 : ByteArray := prog_17_method_152_code
def yJ0_coder_7d493 : MethodName := ⟨RJ0, "coder", "()B"⟩
abbrev cJ0_isLatin1_aae02 : ByteArray := prog_17_method_154_code
def yJ0_isLatin1_aae02 : MethodName := ⟨RJ0, "isLatin1", "()Z"⟩
abbrev cJ0_checkIndex_df160 : ByteArray := prog_17_method_155_code
def yJ0_checkIndex_df160 : MethodName := ⟨RJ0, "checkIndex", "(II)V"⟩
def RJ1 : String := "java/lang/StringLatin1"
def TJ1 : u_T := fun k => match k with
  | _ => ("", "", "", false)
abbrev cJ1_charAt_3b067 : ByteArray := prog_18_method_2_code
def yJ1_charAt_3b067 : MethodName := ⟨RJ1, "charAt", "([BI)C"⟩
def RJ2 : String := "java/lang/StringUTF16"
def TJ2 : u_T := fun k => match k with
  | _ => ("", "", "", false)
abbrev cJ2_getChar_3b067 : ByteArray := prog_19_method_5_code
def yJ2_getChar_3b067 : MethodName := ⟨RJ2, "getChar", "([BI)C"⟩
abbrev cJ2_length_9d52b : ByteArray := prog_19_method_6_code
def yJ2_length_9d52b : MethodName := ⟨RJ2, "length", "([B)I"⟩
abbrev cJ2_charAt_3b067 : ByteArray := prog_19_method_83_code
def yJ2_charAt_3b067 : MethodName := ⟨RJ2, "charAt", "([BI)C"⟩
abbrev cJ2_checkIndex_2214a : ByteArray := prog_19_method_91_code
def yJ2_checkIndex_2214a : MethodName := ⟨RJ2, "checkIndex", "(I[B)V"⟩
def RJ3 : String := "jdk/internal/util/Preconditions"
def TJ3 : u_T := fun k => match k with
  | _ => ("", "", "", false)
abbrev cJ3_checkIndex_8e157 : ByteArray := prog_20_method_11_code
def yJ3_checkIndex_8e157 : MethodName := ⟨RJ3, "checkIndex", "(IILjava/util/function/BiFunction;)I"⟩
def RL : String := "QueenBeltLaw"
abbrev cL_law : ByteArray := code
abbrev vwCl : List vw_C := [(RX0, TX0, 4), (RX1, TX1, 7), (RX3, TX3, 2), (RX4, TX4, 14), (RX5, TX5, 3), (RX6, TX6, 8), (RX7, TX7, 2), (RX8, TX8, 2), (RX9, TX9, 8), (RX10, TX10, 8), (RX11, TX11, 13), (RX12, TX12, 76)]
