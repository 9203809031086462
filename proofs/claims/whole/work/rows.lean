section
-- ===== PART A: goes FIRST, ahead of the names: the tables' words, and 'selects' of the private methods out of them =====
/-- a private method of a class that the tables say can be made, by its rows of tables_1 -/
def lw_okq (q : MethodName × Nat) : Prop := (q.1.cls ≠ "java/lang/invoke/MethodHandle" ∧ q.1.cls ≠ "java/lang/invoke/VarHandle") ∧ Cond.instantiable q.1.cls q.2 ∈ tables_1 ∧ Cond.privateMethod q.1 ∈ tables_1 ∧ Cond.instanceMethod q.1 ∈ tables_1
theorem lw_p0 : lw_okq (⟨"CarpetsLaw", "isPerson", "(I)Z"⟩, 18) := ⟨⟨by decide +kernel, by decide +kernel⟩, List.mem_of_getElem? (i := 22) (by decide +kernel), List.mem_of_getElem? (i := 284) (by decide +kernel), List.mem_of_getElem? (i := 285) (by decide +kernel)⟩
theorem lw_p1 : lw_okq (⟨"CarpetsLaw$Statute", "goTo", "(I)V"⟩, 7) := ⟨⟨by decide +kernel, by decide +kernel⟩, List.mem_of_getElem? (i := 48) (by decide +kernel), List.mem_of_getElem? (i := 391) (by decide +kernel), List.mem_of_getElem? (i := 392) (by decide +kernel)⟩
theorem lw_p2 : lw_okq (⟨"CarpetsLaw$Statute", "readClause", "()Z"⟩, 7) := ⟨⟨by decide +kernel, by decide +kernel⟩, List.mem_of_getElem? (i := 48) (by decide +kernel), List.mem_of_getElem? (i := 395) (by decide +kernel), List.mem_of_getElem? (i := 396) (by decide +kernel)⟩
theorem lw_p3 : lw_okq (⟨"CarpetsLaw$Statute", "readWord", "(Ljava/lang/String;)Z"⟩, 7) := ⟨⟨by decide +kernel, by decide +kernel⟩, List.mem_of_getElem? (i := 48) (by decide +kernel), List.mem_of_getElem? (i := 400) (by decide +kernel), List.mem_of_getElem? (i := 401) (by decide +kernel)⟩
theorem lw_p4 : lw_okq (⟨"CarpetsLaw$Statute", "readBald", "()Z"⟩, 7) := ⟨⟨by decide +kernel, by decide +kernel⟩, List.mem_of_getElem? (i := 48) (by decide +kernel), List.mem_of_getElem? (i := 453) (by decide +kernel), List.mem_of_getElem? (i := 454) (by decide +kernel)⟩
theorem lw_p5 : lw_okq (⟨"CarpetsLaw$Statute", "readNumber", "()I"⟩, 7) := ⟨⟨by decide +kernel, by decide +kernel⟩, List.mem_of_getElem? (i := 48) (by decide +kernel), List.mem_of_getElem? (i := 458) (by decide +kernel), List.mem_of_getElem? (i := 459) (by decide +kernel)⟩
theorem lw_p6 : lw_okq (⟨"CarpetsLaw$Statute", "readEither", "(I)Z"⟩, 7) := ⟨⟨by decide +kernel, by decide +kernel⟩, List.mem_of_getElem? (i := 48) (by decide +kernel), List.mem_of_getElem? (i := 464) (by decide +kernel), List.mem_of_getElem? (i := 465) (by decide +kernel)⟩
theorem lw_p7 : lw_okq (⟨"CarpetsLaw$Statute", "readFactor", "(I)Z"⟩, 7) := ⟨⟨by decide +kernel, by decide +kernel⟩, List.mem_of_getElem? (i := 48) (by decide +kernel), List.mem_of_getElem? (i := 468) (by decide +kernel), List.mem_of_getElem? (i := 469) (by decide +kernel)⟩
theorem lw_p8 : lw_okq (⟨"CarpetsLaw$Statute", "readTest", "()Z"⟩, 7) := ⟨⟨by decide +kernel, by decide +kernel⟩, List.mem_of_getElem? (i := 48) (by decide +kernel), List.mem_of_getElem? (i := 472) (by decide +kernel), List.mem_of_getElem? (i := 473) (by decide +kernel)⟩
theorem lw_p9 : lw_okq (⟨"CarpetsLaw$Statute", "addStep", "(II)V"⟩, 7) := ⟨⟨by decide +kernel, by decide +kernel⟩, List.mem_of_getElem? (i := 48) (by decide +kernel), List.mem_of_getElem? (i := 537) (by decide +kernel), List.mem_of_getElem? (i := 538) (by decide +kernel)⟩
theorem lw_p10 : lw_okq (⟨"CarpetsLaw", "blockOf", "(II)I"⟩, 18) := ⟨⟨by decide +kernel, by decide +kernel⟩, List.mem_of_getElem? (i := 22) (by decide +kernel), List.mem_of_getElem? (i := 606) (by decide +kernel), List.mem_of_getElem? (i := 607) (by decide +kernel)⟩
theorem lw_p11 : lw_okq (⟨"CarpetsLaw", "leaveAloneInTrial", "(I)V"⟩, 18) := ⟨⟨by decide +kernel, by decide +kernel⟩, List.mem_of_getElem? (i := 22) (by decide +kernel), List.mem_of_getElem? (i := 610) (by decide +kernel), List.mem_of_getElem? (i := 611) (by decide +kernel)⟩
theorem lw_p12 : lw_okq (⟨"CarpetsLaw", "trialGoesAsSeen", "()Z"⟩, 18) := ⟨⟨by decide +kernel, by decide +kernel⟩, List.mem_of_getElem? (i := 22) (by decide +kernel), List.mem_of_getElem? (i := 642) (by decide +kernel), List.mem_of_getElem? (i := 643) (by decide +kernel)⟩
theorem lw_p13 : lw_okq (⟨"CarpetsLaw", "trialIsAsSeen", "(I)Z"⟩, 18) := ⟨⟨by decide +kernel, by decide +kernel⟩, List.mem_of_getElem? (i := 22) (by decide +kernel), List.mem_of_getElem? (i := 652) (by decide +kernel), List.mem_of_getElem? (i := 653) (by decide +kernel)⟩
theorem lw_p14 : lw_okq (⟨"CarpetsLaw", "carryOutInTrial", "(II)V"⟩, 18) := ⟨⟨by decide +kernel, by decide +kernel⟩, List.mem_of_getElem? (i := 22) (by decide +kernel), List.mem_of_getElem? (i := 683) (by decide +kernel), List.mem_of_getElem? (i := 684) (by decide +kernel)⟩
theorem lw_p15 : lw_okq (⟨"CarpetsLaw", "hasItems", "(III)Z"⟩, 18) := ⟨⟨by decide +kernel, by decide +kernel⟩, List.mem_of_getElem? (i := 22) (by decide +kernel), List.mem_of_getElem? (i := 831) (by decide +kernel), List.mem_of_getElem? (i := 832) (by decide +kernel)⟩
def lw_privs_1 : List (MethodName × Nat) := [(⟨"CarpetsLaw", "isPerson", "(I)Z"⟩, 18), (⟨"CarpetsLaw$Statute", "goTo", "(I)V"⟩, 7), (⟨"CarpetsLaw$Statute", "readClause", "()Z"⟩, 7), (⟨"CarpetsLaw$Statute", "readWord", "(Ljava/lang/String;)Z"⟩, 7), (⟨"CarpetsLaw$Statute", "readBald", "()Z"⟩, 7), (⟨"CarpetsLaw$Statute", "readNumber", "()I"⟩, 7), (⟨"CarpetsLaw$Statute", "readEither", "(I)Z"⟩, 7), (⟨"CarpetsLaw$Statute", "readFactor", "(I)Z"⟩, 7), (⟨"CarpetsLaw$Statute", "readTest", "()Z"⟩, 7), (⟨"CarpetsLaw$Statute", "addStep", "(II)V"⟩, 7), (⟨"CarpetsLaw", "blockOf", "(II)I"⟩, 18), (⟨"CarpetsLaw", "leaveAloneInTrial", "(I)V"⟩, 18), (⟨"CarpetsLaw", "trialGoesAsSeen", "()Z"⟩, 18), (⟨"CarpetsLaw", "trialIsAsSeen", "(I)Z"⟩, 18), (⟨"CarpetsLaw", "carryOutInTrial", "(II)V"⟩, 18), (⟨"CarpetsLaw", "hasItems", "(III)Z"⟩, 18)]
theorem lw_r1 : ∀ q ∈ lw_privs_1, lw_okq q := List.forall_mem_cons.mpr ⟨lw_p0, List.forall_mem_cons.mpr ⟨lw_p1, List.forall_mem_cons.mpr ⟨lw_p2, List.forall_mem_cons.mpr ⟨lw_p3, List.forall_mem_cons.mpr ⟨lw_p4, List.forall_mem_cons.mpr ⟨lw_p5, List.forall_mem_cons.mpr ⟨lw_p6, List.forall_mem_cons.mpr ⟨lw_p7, List.forall_mem_cons.mpr ⟨lw_p8, List.forall_mem_cons.mpr ⟨lw_p9, List.forall_mem_cons.mpr ⟨lw_p10, List.forall_mem_cons.mpr ⟨lw_p11, List.forall_mem_cons.mpr ⟨lw_p12, List.forall_mem_cons.mpr ⟨lw_p13, List.forall_mem_cons.mpr ⟨lw_p14, List.forall_mem_cons.mpr ⟨lw_p15, fun _ h => absurd h List.not_mem_nil⟩⟩⟩⟩⟩⟩⟩⟩⟩⟩⟩⟩⟩⟩⟩⟩
theorem lw_p16 : lw_okq (⟨"CarpetsLawModel", "isOne", "(I)Z"⟩, 44) := ⟨⟨by decide +kernel, by decide +kernel⟩, List.mem_of_getElem? (i := 836) (by decide +kernel), List.mem_of_getElem? (i := 989) (by decide +kernel), List.mem_of_getElem? (i := 990) (by decide +kernel)⟩
theorem lw_p17 : lw_okq (⟨"CarpetsLawModel", "sent", "(I)I"⟩, 44) := ⟨⟨by decide +kernel, by decide +kernel⟩, List.mem_of_getElem? (i := 836) (by decide +kernel), List.mem_of_getElem? (i := 993) (by decide +kernel), List.mem_of_getElem? (i := 994) (by decide +kernel)⟩
theorem lw_p18 : lw_okq (⟨"CarpetsLawModel", "isBald", "(I)Z"⟩, 44) := ⟨⟨by decide +kernel, by decide +kernel⟩, List.mem_of_getElem? (i := 836) (by decide +kernel), List.mem_of_getElem? (i := 1000) (by decide +kernel), List.mem_of_getElem? (i := 1001) (by decide +kernel)⟩
theorem lw_p19 : lw_okq (⟨"CarpetsLawModel", "baldFrom", "()I"⟩, 44) := ⟨⟨by decide +kernel, by decide +kernel⟩, List.mem_of_getElem? (i := 836) (by decide +kernel), List.mem_of_getElem? (i := 1004) (by decide +kernel), List.mem_of_getElem? (i := 1005) (by decide +kernel)⟩
theorem lw_p20 : lw_okq (⟨"CarpetsLawModel", "pullOf", "(II)I"⟩, 44) := ⟨⟨by decide +kernel, by decide +kernel⟩, List.mem_of_getElem? (i := 836) (by decide +kernel), List.mem_of_getElem? (i := 1008) (by decide +kernel), List.mem_of_getElem? (i := 1009) (by decide +kernel)⟩
theorem lw_p21 : lw_okq (⟨"CarpetsLawModel", "sum", "(II)I"⟩, 44) := ⟨⟨by decide +kernel, by decide +kernel⟩, List.mem_of_getElem? (i := 836) (by decide +kernel), List.mem_of_getElem? (i := 1012) (by decide +kernel), List.mem_of_getElem? (i := 1013) (by decide +kernel)⟩
theorem lw_p22 : lw_okq (⟨"CarpetsLawModel", "isTrue", "(III)Z"⟩, 44) := ⟨⟨by decide +kernel, by decide +kernel⟩, List.mem_of_getElem? (i := 836) (by decide +kernel), List.mem_of_getElem? (i := 1016) (by decide +kernel), List.mem_of_getElem? (i := 1017) (by decide +kernel)⟩
theorem lw_p23 : lw_okq (⟨"CarpetsLawModel", "letterOf", "(III)I"⟩, 44) := ⟨⟨by decide +kernel, by decide +kernel⟩, List.mem_of_getElem? (i := 836) (by decide +kernel), List.mem_of_getElem? (i := 1020) (by decide +kernel), List.mem_of_getElem? (i := 1021) (by decide +kernel)⟩
theorem lw_p24 : lw_okq (⟨"CarpetsLawModel", "tread", "(I)I"⟩, 44) := ⟨⟨by decide +kernel, by decide +kernel⟩, List.mem_of_getElem? (i := 836) (by decide +kernel), List.mem_of_getElem? (i := 1024) (by decide +kernel), List.mem_of_getElem? (i := 1025) (by decide +kernel)⟩
theorem lw_p25 : lw_okq (⟨"CarpetsLawModel", "isClause", "(I)Z"⟩, 44) := ⟨⟨by decide +kernel, by decide +kernel⟩, List.mem_of_getElem? (i := 836) (by decide +kernel), List.mem_of_getElem? (i := 1056) (by decide +kernel), List.mem_of_getElem? (i := 1057) (by decide +kernel)⟩
theorem lw_p26 : lw_okq (⟨"CarpetsLawModel", "isAll", "(Ljava/lang/String;)Z"⟩, 44) := ⟨⟨by decide +kernel, by decide +kernel⟩, List.mem_of_getElem? (i := 836) (by decide +kernel), List.mem_of_getElem? (i := 1061) (by decide +kernel), List.mem_of_getElem? (i := 1062) (by decide +kernel)⟩
theorem lw_p27 : lw_okq (⟨"CarpetsLawModel", "is", "(I)Z"⟩, 44) := ⟨⟨by decide +kernel, by decide +kernel⟩, List.mem_of_getElem? (i := 836) (by decide +kernel), List.mem_of_getElem? (i := 1067) (by decide +kernel), List.mem_of_getElem? (i := 1068) (by decide +kernel)⟩
theorem lw_p28 : lw_okq (⟨"CarpetsLawModel", "isNumber", "()Z"⟩, 44) := ⟨⟨by decide +kernel, by decide +kernel⟩, List.mem_of_getElem? (i := 836) (by decide +kernel), List.mem_of_getElem? (i := 1073) (by decide +kernel), List.mem_of_getElem? (i := 1074) (by decide +kernel)⟩
theorem lw_p29 : lw_okq (⟨"CarpetsLawModel", "isDigit", "()Z"⟩, 44) := ⟨⟨by decide +kernel, by decide +kernel⟩, List.mem_of_getElem? (i := 836) (by decide +kernel), List.mem_of_getElem? (i := 1077) (by decide +kernel), List.mem_of_getElem? (i := 1078) (by decide +kernel)⟩
theorem lw_p30 : lw_okq (⟨"CarpetsLawModel", "isE", "()Z"⟩, 44) := ⟨⟨by decide +kernel, by decide +kernel⟩, List.mem_of_getElem? (i := 836) (by decide +kernel), List.mem_of_getElem? (i := 1081) (by decide +kernel), List.mem_of_getElem? (i := 1082) (by decide +kernel)⟩
theorem lw_p31 : lw_okq (⟨"CarpetsLawModel", "isT", "()Z"⟩, 44) := ⟨⟨by decide +kernel, by decide +kernel⟩, List.mem_of_getElem? (i := 836) (by decide +kernel), List.mem_of_getElem? (i := 1085) (by decide +kernel), List.mem_of_getElem? (i := 1086) (by decide +kernel)⟩
def lw_privs_2 : List (MethodName × Nat) := [(⟨"CarpetsLawModel", "isOne", "(I)Z"⟩, 44), (⟨"CarpetsLawModel", "sent", "(I)I"⟩, 44), (⟨"CarpetsLawModel", "isBald", "(I)Z"⟩, 44), (⟨"CarpetsLawModel", "baldFrom", "()I"⟩, 44), (⟨"CarpetsLawModel", "pullOf", "(II)I"⟩, 44), (⟨"CarpetsLawModel", "sum", "(II)I"⟩, 44), (⟨"CarpetsLawModel", "isTrue", "(III)Z"⟩, 44), (⟨"CarpetsLawModel", "letterOf", "(III)I"⟩, 44), (⟨"CarpetsLawModel", "tread", "(I)I"⟩, 44), (⟨"CarpetsLawModel", "isClause", "(I)Z"⟩, 44), (⟨"CarpetsLawModel", "isAll", "(Ljava/lang/String;)Z"⟩, 44), (⟨"CarpetsLawModel", "is", "(I)Z"⟩, 44), (⟨"CarpetsLawModel", "isNumber", "()Z"⟩, 44), (⟨"CarpetsLawModel", "isDigit", "()Z"⟩, 44), (⟨"CarpetsLawModel", "isE", "()Z"⟩, 44), (⟨"CarpetsLawModel", "isT", "()Z"⟩, 44)]
theorem lw_r2 : ∀ q ∈ lw_privs_2, lw_okq q := List.forall_mem_cons.mpr ⟨lw_p16, List.forall_mem_cons.mpr ⟨lw_p17, List.forall_mem_cons.mpr ⟨lw_p18, List.forall_mem_cons.mpr ⟨lw_p19, List.forall_mem_cons.mpr ⟨lw_p20, List.forall_mem_cons.mpr ⟨lw_p21, List.forall_mem_cons.mpr ⟨lw_p22, List.forall_mem_cons.mpr ⟨lw_p23, List.forall_mem_cons.mpr ⟨lw_p24, List.forall_mem_cons.mpr ⟨lw_p25, List.forall_mem_cons.mpr ⟨lw_p26, List.forall_mem_cons.mpr ⟨lw_p27, List.forall_mem_cons.mpr ⟨lw_p28, List.forall_mem_cons.mpr ⟨lw_p29, List.forall_mem_cons.mpr ⟨lw_p30, List.forall_mem_cons.mpr ⟨lw_p31, fun _ h => absurd h List.not_mem_nil⟩⟩⟩⟩⟩⟩⟩⟩⟩⟩⟩⟩⟩⟩⟩⟩
theorem lw_p32 : lw_okq (⟨"CarpetsLawModel", "isF", "()Z"⟩, 44) := ⟨⟨by decide +kernel, by decide +kernel⟩, List.mem_of_getElem? (i := 836) (by decide +kernel), List.mem_of_getElem? (i := 1089) (by decide +kernel), List.mem_of_getElem? (i := 1090) (by decide +kernel)⟩
theorem lw_p33 : lw_okq (⟨"CarpetsLawModel", "isOpened", "(I)Z"⟩, 44) := ⟨⟨by decide +kernel, by decide +kernel⟩, List.mem_of_getElem? (i := 836) (by decide +kernel), List.mem_of_getElem? (i := 1093) (by decide +kernel), List.mem_of_getElem? (i := 1094) (by decide +kernel)⟩
theorem lw_p34 : lw_okq (⟨"CarpetsLawModel", "codes", "(I)Z"⟩, 44) := ⟨⟨by decide +kernel, by decide +kernel⟩, List.mem_of_getElem? (i := 836) (by decide +kernel), List.mem_of_getElem? (i := 1097) (by decide +kernel), List.mem_of_getElem? (i := 1098) (by decide +kernel)⟩
theorem lw_p35 : lw_okq (⟨"CarpetsLawModel", "isTest", "()Z"⟩, 44) := ⟨⟨by decide +kernel, by decide +kernel⟩, List.mem_of_getElem? (i := 836) (by decide +kernel), List.mem_of_getElem? (i := 1101) (by decide +kernel), List.mem_of_getElem? (i := 1102) (by decide +kernel)⟩
theorem lw_p36 : lw_okq (⟨"CarpetsLawModel", "balds", "()I"⟩, 44) := ⟨⟨by decide +kernel, by decide +kernel⟩, List.mem_of_getElem? (i := 836) (by decide +kernel), List.mem_of_getElem? (i := 1112) (by decide +kernel), List.mem_of_getElem? (i := 1113) (by decide +kernel)⟩
theorem lw_p37 : lw_okq (⟨"CarpetsLawModel", "allWear", "()I"⟩, 44) := ⟨⟨by decide +kernel, by decide +kernel⟩, List.mem_of_getElem? (i := 836) (by decide +kernel), List.mem_of_getElem? (i := 1116) (by decide +kernel), List.mem_of_getElem? (i := 1117) (by decide +kernel)⟩
theorem lw_p38 : lw_okq (⟨"CarpetsLawModel", "beating", "()I"⟩, 44) := ⟨⟨by decide +kernel, by decide +kernel⟩, List.mem_of_getElem? (i := 836) (by decide +kernel), List.mem_of_getElem? (i := 1120) (by decide +kernel), List.mem_of_getElem? (i := 1121) (by decide +kernel)⟩
theorem lw_p39 : lw_okq (⟨"CarpetsLawModel", "goesHour", "()V"⟩, 44) := ⟨⟨by decide +kernel, by decide +kernel⟩, List.mem_of_getElem? (i := 836) (by decide +kernel), List.mem_of_getElem? (i := 1133) (by decide +kernel), List.mem_of_getElem? (i := 1134) (by decide +kernel)⟩
theorem lw_p40 : lw_okq (⟨"CarpetsLawModel", "keep", "([I)V"⟩, 44) := ⟨⟨by decide +kernel, by decide +kernel⟩, List.mem_of_getElem? (i := 836) (by decide +kernel), List.mem_of_getElem? (i := 1141) (by decide +kernel), List.mem_of_getElem? (i := 1142) (by decide +kernel)⟩
theorem lw_p41 : lw_okq (⟨"CarpetsLawModel", "again", "([I)V"⟩, 44) := ⟨⟨by decide +kernel, by decide +kernel⟩, List.mem_of_getElem? (i := 836) (by decide +kernel), List.mem_of_getElem? (i := 1145) (by decide +kernel), List.mem_of_getElem? (i := 1146) (by decide +kernel)⟩
theorem lw_p42 : lw_okq (⟨"CarpetsLawModel", "gets", "(II)I"⟩, 44) := ⟨⟨by decide +kernel, by decide +kernel⟩, List.mem_of_getElem? (i := 836) (by decide +kernel), List.mem_of_getElem? (i := 1153) (by decide +kernel), List.mem_of_getElem? (i := 1154) (by decide +kernel)⟩
theorem lw_p43 : lw_okq (⟨"CarpetsLawModel", "steps", "(II)I"⟩, 44) := ⟨⟨by decide +kernel, by decide +kernel⟩, List.mem_of_getElem? (i := 836) (by decide +kernel), List.mem_of_getElem? (i := 1157) (by decide +kernel), List.mem_of_getElem? (i := 1158) (by decide +kernel)⟩
theorem lw_p44 : lw_okq (⟨"CarpetsLawModel", "block", "(II)I"⟩, 44) := ⟨⟨by decide +kernel, by decide +kernel⟩, List.mem_of_getElem? (i := 836) (by decide +kernel), List.mem_of_getElem? (i := 1161) (by decide +kernel), List.mem_of_getElem? (i := 1162) (by decide +kernel)⟩
theorem lw_p45 : lw_okq (⟨"CarpetsLawModel", "isSeen", "()Z"⟩, 44) := ⟨⟨by decide +kernel, by decide +kernel⟩, List.mem_of_getElem? (i := 836) (by decide +kernel), List.mem_of_getElem? (i := 1180) (by decide +kernel), List.mem_of_getElem? (i := 1181) (by decide +kernel)⟩
theorem lw_p46 : lw_okq (⟨"CarpetsLawModel", "bows", "(III)I"⟩, 44) := ⟨⟨by decide +kernel, by decide +kernel⟩, List.mem_of_getElem? (i := 836) (by decide +kernel), List.mem_of_getElem? (i := 1232) (by decide +kernel), List.mem_of_getElem? (i := 1233) (by decide +kernel)⟩
theorem lw_p47 : lw_okq (⟨"CarpetsLawModel", "ran", "(I)V"⟩, 44) := ⟨⟨by decide +kernel, by decide +kernel⟩, List.mem_of_getElem? (i := 836) (by decide +kernel), List.mem_of_getElem? (i := 1236) (by decide +kernel), List.mem_of_getElem? (i := 1237) (by decide +kernel)⟩
def lw_privs_3 : List (MethodName × Nat) := [(⟨"CarpetsLawModel", "isF", "()Z"⟩, 44), (⟨"CarpetsLawModel", "isOpened", "(I)Z"⟩, 44), (⟨"CarpetsLawModel", "codes", "(I)Z"⟩, 44), (⟨"CarpetsLawModel", "isTest", "()Z"⟩, 44), (⟨"CarpetsLawModel", "balds", "()I"⟩, 44), (⟨"CarpetsLawModel", "allWear", "()I"⟩, 44), (⟨"CarpetsLawModel", "beating", "()I"⟩, 44), (⟨"CarpetsLawModel", "goesHour", "()V"⟩, 44), (⟨"CarpetsLawModel", "keep", "([I)V"⟩, 44), (⟨"CarpetsLawModel", "again", "([I)V"⟩, 44), (⟨"CarpetsLawModel", "gets", "(II)I"⟩, 44), (⟨"CarpetsLawModel", "steps", "(II)I"⟩, 44), (⟨"CarpetsLawModel", "block", "(II)I"⟩, 44), (⟨"CarpetsLawModel", "isSeen", "()Z"⟩, 44), (⟨"CarpetsLawModel", "bows", "(III)I"⟩, 44), (⟨"CarpetsLawModel", "ran", "(I)V"⟩, 44)]
theorem lw_r3 : ∀ q ∈ lw_privs_3, lw_okq q := List.forall_mem_cons.mpr ⟨lw_p32, List.forall_mem_cons.mpr ⟨lw_p33, List.forall_mem_cons.mpr ⟨lw_p34, List.forall_mem_cons.mpr ⟨lw_p35, List.forall_mem_cons.mpr ⟨lw_p36, List.forall_mem_cons.mpr ⟨lw_p37, List.forall_mem_cons.mpr ⟨lw_p38, List.forall_mem_cons.mpr ⟨lw_p39, List.forall_mem_cons.mpr ⟨lw_p40, List.forall_mem_cons.mpr ⟨lw_p41, List.forall_mem_cons.mpr ⟨lw_p42, List.forall_mem_cons.mpr ⟨lw_p43, List.forall_mem_cons.mpr ⟨lw_p44, List.forall_mem_cons.mpr ⟨lw_p45, List.forall_mem_cons.mpr ⟨lw_p46, List.forall_mem_cons.mpr ⟨lw_p47, fun _ h => absurd h List.not_mem_nil⟩⟩⟩⟩⟩⟩⟩⟩⟩⟩⟩⟩⟩⟩⟩⟩
theorem lw_p48 : lw_okq (⟨"CarpetsLawModel", "walks", "(III)I"⟩, 44) := ⟨⟨by decide +kernel, by decide +kernel⟩, List.mem_of_getElem? (i := 836) (by decide +kernel), List.mem_of_getElem? (i := 1243) (by decide +kernel), List.mem_of_getElem? (i := 1244) (by decide +kernel)⟩
theorem lw_p49 : lw_okq (⟨"CarpetsLawModel", "tells", "(III)I"⟩, 44) := ⟨⟨by decide +kernel, by decide +kernel⟩, List.mem_of_getElem? (i := 836) (by decide +kernel), List.mem_of_getElem? (i := 1247) (by decide +kernel), List.mem_of_getElem? (i := 1248) (by decide +kernel)⟩
def lw_privs_4 : List (MethodName × Nat) := [(⟨"CarpetsLawModel", "walks", "(III)I"⟩, 44), (⟨"CarpetsLawModel", "tells", "(III)I"⟩, 44)]
theorem lw_r4 : ∀ q ∈ lw_privs_4, lw_okq q := List.forall_mem_cons.mpr ⟨lw_p48, List.forall_mem_cons.mpr ⟨lw_p49, fun _ h => absurd h List.not_mem_nil⟩⟩
def lw_privs : List (MethodName × Nat) := lw_privs_1 ++ (lw_privs_2 ++ (lw_privs_3 ++ (lw_privs_4)))
def lw_tbl : List Cond := k2_sels lw_privs ++ tables_1
theorem lw_privs_ok : ∀ q ∈ lw_privs, lw_okq q := by
  show ∀ q ∈ lw_privs_1 ++ (lw_privs_2 ++ (lw_privs_3 ++ (lw_privs_4))), lw_okq q
  exact List.forall_mem_append.mpr ⟨lw_r1, List.forall_mem_append.mpr ⟨lw_r2, List.forall_mem_append.mpr ⟨lw_r3, lw_r4⟩⟩⟩
end
section
theorem goodIn_r {big : List Cond} (ws : List Cond) (ps : List Nat) (hp : ws = ps.filterMap (fun i => big[i]?)) (h : ws.all goodWord = true) : GoodIn big ws := by
  intro w hw
  have h1 := List.all_eq_true.mp h w hw
  rw [hp] at hw
  obtain ⟨i, -, hi⟩ := List.mem_filterMap.mp hw
  have hm : w ∈ big := by first | exact List.mem_of_getElem? hi | exact List.getElem?_mem hi
  exact ⟨hm, good_of_word h1⟩
theorem goodIn_app {big a b : List Cond} (ha : GoodIn big a) (hb : GoodIn big b) : GoodIn big (a ++ b) := fun w h => (List.mem_append.mp h).elim (ha w) (hb w)
theorem goodIn_ca {big a b : List Cond} {c : Cond} (ha : GoodIn big (c :: a)) (hb : GoodIn big b) : GoodIn big (c :: (a ++ b)) := fun w h => (List.mem_cons.mp h).elim (fun e => ha w (List.mem_cons.mpr (Or.inl e))) (fun h => (List.mem_append.mp h).elim (fun h => ha w (List.mem_cons.mpr (Or.inr h))) (hb w))
theorem goodIn_sub {big ws : List Cond} (hm : ∀ w ∈ ws, w ∈ big) (h : ws.all goodWord = true) : GoodIn big ws := fun w hw => ⟨hm w hw, good_of_word (List.all_eq_true.mp h w hw)⟩
def RX0 : String := "CarpetsLaw$Child"
def TX0 : u_T := fun k => match k with
  | _ => ("", "", "", false)
def tyX0 : Nat → FieldType := fun k => match k with
  | _ => .int
abbrev wsX00 : List Cond := u_ws RX0 TX0 0
theorem nmX0 : ∀ a, a < 0 → ∀ b, b < 0 → a ≠ b → (TX0 a).2.1 ≠ (TX0 b).2.1 := by decide +kernel
theorem tyX0_ok : ∀ k, k < 0 → parseFieldDescriptor (TX0 k).2.2.1 = some (tyX0 k) := by decide +kernel
abbrev cX0_init : ByteArray := prog_2_method_1_code
def yX0_init : MethodName := ⟨RX0, "<init>", "()V"⟩
abbrev cX0_tread : ByteArray := prog_2_method_2_code
def yX0_tread : MethodName := ⟨RX0, "tread", "()I"⟩
abbrev cX0_pullBy : ByteArray := prog_2_method_3_code
def yX0_pullBy : MethodName := ⟨RX0, "pullBy", "(ILCarpetsLaw$Hall;II)I"⟩
abbrev cX0_tells : ByteArray := prog_2_method_4_code
def yX0_tells : MethodName := ⟨RX0, "tells", "(LCarpetsLaw$Deed;I)I"⟩
def RX1 : String := "CarpetsLaw$Deed"
def TX1 : u_T := fun k => match k with
  | 0 => ("CarpetsLaw$Deed", "number", "I", false)
  | 1 => ("CarpetsLaw$Deed", "v", "I", false)
  | 2 => ("CarpetsLaw$Deed", "bodies", "I", false)
  | _ => ("CarpetsLaw$Deed", "trace", "[I", true)
def tyX1 : Nat → FieldType := fun k => match k with
  | 0 => .int
  | 1 => .int
  | 2 => .int
  | _ => .array .int
abbrev wsX10 : List Cond := u_ws RX1 TX1 4
theorem nmX1 : ∀ a, a < 4 → ∀ b, b < 4 → a ≠ b → (TX1 a).2.1 ≠ (TX1 b).2.1 := by decide +kernel
theorem tyX1_ok : ∀ k, k < 4 → parseFieldDescriptor (TX1 k).2.2.1 = some (tyX1 k) := by decide +kernel
abbrev cX1_init : ByteArray := prog_3_method_1_code
def yX1_init : MethodName := ⟨RX1, "<init>", "()V"⟩
abbrev cX1_begin : ByteArray := prog_3_method_2_code
def yX1_begin : MethodName := ⟨RX1, "begin", "(I)V"⟩
def RX2 : String := "CarpetsLaw$Guard"
def TX2 : u_T := fun k => match k with
  | _ => ("", "", "", false)
def tyX2 : Nat → FieldType := fun k => match k with
  | _ => .int
abbrev wsX20 : List Cond := u_ws RX2 TX2 0
theorem nmX2 : ∀ a, a < 0 → ∀ b, b < 0 → a ≠ b → (TX2 a).2.1 ≠ (TX2 b).2.1 := by decide +kernel
theorem tyX2_ok : ∀ k, k < 0 → parseFieldDescriptor (TX2 k).2.2.1 = some (tyX2 k) := by decide +kernel
abbrev cX2_init : ByteArray := prog_4_method_1_code
def yX2_init : MethodName := ⟨RX2, "<init>", "()V"⟩
abbrev cX2_pullBy : ByteArray := prog_4_method_2_code
def yX2_pullBy : MethodName := ⟨RX2, "pullBy", "(ILCarpetsLaw$Hall;II)I"⟩
abbrev cX2_bows : ByteArray := prog_4_method_3_code
def yX2_bows : MethodName := ⟨RX2, "bows", "(LCarpetsLaw$Deed;I)I"⟩
abbrev cX2_walks : ByteArray := prog_4_method_4_code
def yX2_walks : MethodName := ⟨RX2, "walks", "(LCarpetsLaw$Deed;I)I"⟩
def RX3 : String := "CarpetsLaw$Hall"
def TX3 : u_T := fun k => match k with
  | 0 => ("CarpetsLaw$Hall", "kinds", "[LCarpetsLaw$Walker;", true)
  | 1 => ("CarpetsLaw$Hall", "law", "LCarpetsLaw$Statute;", false)
  | 2 => ("CarpetsLaw$Hall", "hour", "I", false)
  | 3 => ("CarpetsLaw$Hall", "wear", "[I", true)
  | 4 => ("CarpetsLaw$Hall", "people", "I", false)
  | 5 => ("CarpetsLaw$Hall", "kind", "[I", true)
  | 6 => ("CarpetsLaw$Hall", "v", "[I", true)
  | 7 => ("CarpetsLaw$Hall", "cell", "[I", true)
  | 8 => ("CarpetsLaw$Hall", "away", "[Z", true)
  | 9 => ("CarpetsLaw$Hall", "rows", "[I", true)
  | _ => ("CarpetsLaw$Hall", "facts", "[I", true)
def tyX3 : Nat → FieldType := fun k => match k with
  | 0 => .array (.object "CarpetsLaw$Walker")
  | 1 => .object "CarpetsLaw$Statute"
  | 2 => .int
  | 3 => .array .int
  | 4 => .int
  | 5 => .array .int
  | 6 => .array .int
  | 7 => .array .int
  | 8 => .array .boolean
  | 9 => .array .int
  | _ => .array .int
abbrev wsX30 : List Cond := u_ws RX3 TX3 11
theorem nmX3 : ∀ a, a < 11 → ∀ b, b < 11 → a ≠ b → (TX3 a).2.1 ≠ (TX3 b).2.1 := by decide +kernel
theorem tyX3_ok : ∀ k, k < 11 → parseFieldDescriptor (TX3 k).2.2.1 = some (tyX3 k) := by decide +kernel
abbrev cX3_init : ByteArray := prog_5_method_1_code
def yX3_init : MethodName := ⟨RX3, "<init>", "([LCarpetsLaw$Walker;LCarpetsLaw$Statute;)V"⟩
abbrev cX3_take : ByteArray := prog_5_method_2_code
def yX3_take : MethodName := ⟨RX3, "take", "(LCarpetsLaw$Hall;)V"⟩
abbrev cX3_welcome : ByteArray := prog_5_method_3_code
def yX3_welcome : MethodName := ⟨RX3, "welcome", "(III)I"⟩
abbrev cX3_kindOf : ByteArray := prog_5_method_4_code
def yX3_kindOf : MethodName := ⟨RX3, "kindOf", "(I)LCarpetsLaw$Walker;"⟩
abbrev cX3_isBald : ByteArray := prog_5_method_5_code
def yX3_isBald : MethodName := ⟨RX3, "isBald", "(I)Z"⟩
abbrev cX3_countBald : ByteArray := prog_5_method_6_code
def yX3_countBald : MethodName := ⟨RX3, "countBald", "()I"⟩
abbrev cX3_wearOfAll : ByteArray := prog_5_method_7_code
def yX3_wearOfAll : MethodName := ⟨RX3, "wearOfAll", "()I"⟩
abbrev cX3_beating : ByteArray := prog_5_method_8_code
def yX3_beating : MethodName := ⟨RX3, "beating", "()I"⟩
abbrev cX3_tread : ByteArray := prog_5_method_9_code
def yX3_tread : MethodName := ⟨RX3, "tread", "(II)V"⟩
abbrev cX3_pullOn : ByteArray := prog_5_method_10_code
def yX3_pullOn : MethodName := ⟨RX3, "pullOn", "(II)I"⟩
abbrev cX3_sends : ByteArray := prog_5_method_11_code
def yX3_sends : MethodName := ⟨RX3, "sends", "(I)I"⟩
abbrev cX3_goHour : ByteArray := prog_5_method_12_code
def yX3_goHour : MethodName := ⟨RX3, "goHour", "()V"⟩
abbrev cX3_goHours : ByteArray := prog_5_method_13_code
def yX3_goHours : MethodName := ⟨RX3, "goHours", "(I)V"⟩
abbrev cX3_hoursTo : ByteArray := prog_5_method_14_code
def yX3_hoursTo : MethodName := ⟨RX3, "hoursTo", "(II)I"⟩
abbrev cX3_stepsTo : ByteArray := prog_5_method_15_code
def yX3_stepsTo : MethodName := ⟨RX3, "stepsTo", "(II)I"⟩
def RX4 : String := "CarpetsLaw$Kneeler"
def TX4 : u_T := fun k => match k with
  | _ => ("", "", "", false)
def tyX4 : Nat → FieldType := fun k => match k with
  | _ => .int
abbrev wsX40 : List Cond := u_ws RX4 TX4 0
theorem nmX4 : ∀ a, a < 0 → ∀ b, b < 0 → a ≠ b → (TX4 a).2.1 ≠ (TX4 b).2.1 := by decide +kernel
theorem tyX4_ok : ∀ k, k < 0 → parseFieldDescriptor (TX4 k).2.2.1 = some (tyX4 k) := by decide +kernel
abbrev cX4_init : ByteArray := prog_6_method_1_code
def yX4_init : MethodName := ⟨RX4, "<init>", "()V"⟩
abbrev cX4_tread : ByteArray := prog_6_method_2_code
def yX4_tread : MethodName := ⟨RX4, "tread", "()I"⟩
abbrev cX4_pullBy : ByteArray := prog_6_method_3_code
def yX4_pullBy : MethodName := ⟨RX4, "pullBy", "(ILCarpetsLaw$Hall;II)I"⟩
abbrev cX4_tells : ByteArray := prog_6_method_4_code
def yX4_tells : MethodName := ⟨RX4, "tells", "(LCarpetsLaw$Deed;I)I"⟩
def RX5 : String := "CarpetsLaw$Rows"
def TX5 : u_T := fun k => match k with
  | 0 => ("CarpetsLaw$Rows", "limit", "I", true)
  | 1 => ("CarpetsLaw$Rows", "parts", "[I", true)
  | _ => ("CarpetsLaw$Rows", "count", "I", false)
def tyX5 : Nat → FieldType := fun k => match k with
  | 0 => .int
  | 1 => .array .int
  | _ => .int
abbrev wsX50 : List Cond := u_ws RX5 TX5 3
theorem nmX5 : ∀ a, a < 3 → ∀ b, b < 3 → a ≠ b → (TX5 a).2.1 ≠ (TX5 b).2.1 := by decide +kernel
theorem tyX5_ok : ∀ k, k < 3 → parseFieldDescriptor (TX5 k).2.2.1 = some (tyX5 k) := by decide +kernel
abbrev cX5_init : ByteArray := prog_7_method_1_code
def yX5_init : MethodName := ⟨RX5, "<init>", "(I)V"⟩
abbrev cX5_clear : ByteArray := prog_7_method_2_code
def yX5_clear : MethodName := ⟨RX5, "clear", "()I"⟩
abbrev cX5_add : ByteArray := prog_7_method_3_code
def yX5_add : MethodName := ⟨RX5, "add", "(III)I"⟩
abbrev cX5_part : ByteArray := prog_7_method_4_code
def yX5_part : MethodName := ⟨RX5, "part", "(II)I"⟩
abbrev cX5_take : ByteArray := prog_7_method_5_code
def yX5_take : MethodName := ⟨RX5, "take", "(LCarpetsLaw$Rows;)V"⟩
def RX6 : String := "CarpetsLaw$Socks"
def TX6 : u_T := fun k => match k with
  | _ => ("", "", "", false)
def tyX6 : Nat → FieldType := fun k => match k with
  | _ => .int
abbrev wsX60 : List Cond := u_ws RX6 TX6 0
theorem nmX6 : ∀ a, a < 0 → ∀ b, b < 0 → a ≠ b → (TX6 a).2.1 ≠ (TX6 b).2.1 := by decide +kernel
theorem tyX6_ok : ∀ k, k < 0 → parseFieldDescriptor (TX6 k).2.2.1 = some (tyX6 k) := by decide +kernel
abbrev cX6_init : ByteArray := prog_8_method_1_code
def yX6_init : MethodName := ⟨RX6, "<init>", "()V"⟩
abbrev cX6_tread : ByteArray := prog_8_method_2_code
def yX6_tread : MethodName := ⟨RX6, "tread", "()I"⟩
abbrev cX6_pullBy : ByteArray := prog_8_method_3_code
def yX6_pullBy : MethodName := ⟨RX6, "pullBy", "(ILCarpetsLaw$Hall;II)I"⟩
abbrev cX6_bows : ByteArray := prog_8_method_4_code
def yX6_bows : MethodName := ⟨RX6, "bows", "(LCarpetsLaw$Deed;I)I"⟩
def RX7 : String := "CarpetsLaw$Statute"
def TX7 : u_T := fun k => match k with
  | 0 => ("CarpetsLaw$Statute", "steps", "[I", true)
  | 1 => ("CarpetsLaw$Statute", "length", "I", false)
  | 2 => ("CarpetsLaw$Statute", "bald", "I", false)
  | 3 => ("CarpetsLaw$Statute", "text", "[B", false)
  | 4 => ("CarpetsLaw$Statute", "textLength", "I", false)
  | 5 => ("CarpetsLaw$Statute", "at", "I", false)
  | _ => ("CarpetsLaw$Statute", "next", "I", false)
def tyX7 : Nat → FieldType := fun k => match k with
  | 0 => .array .int
  | 1 => .int
  | 2 => .int
  | 3 => .array .byte
  | 4 => .int
  | 5 => .int
  | _ => .int
abbrev wsX70 : List Cond := u_ws RX7 TX7 7
theorem nmX7 : ∀ a, a < 7 → ∀ b, b < 7 → a ≠ b → (TX7 a).2.1 ≠ (TX7 b).2.1 := by decide +kernel
theorem tyX7_ok : ∀ k, k < 7 → parseFieldDescriptor (TX7 k).2.2.1 = some (tyX7 k) := by decide +kernel
abbrev cX7_init : ByteArray := prog_9_method_1_code
def yX7_init : MethodName := ⟨RX7, "<init>", "()V"⟩
abbrev cX7_readFrom : ByteArray := prog_9_method_2_code
def yX7_readFrom : MethodName := ⟨RX7, "readFrom", "([BI)Z"⟩
abbrev cX7_goTo : ByteArray := prog_9_method_3_code
def yX7_goTo : MethodName := ⟨RX7, "goTo", "(I)V"⟩
abbrev cX7_readWord : ByteArray := prog_9_method_4_code
def yX7_readWord : MethodName := ⟨RX7, "readWord", "(Ljava/lang/String;)Z"⟩
abbrev cX7_readClause : ByteArray := prog_9_method_5_code
def yX7_readClause : MethodName := ⟨RX7, "readClause", "()Z"⟩
abbrev cX7_readBald : ByteArray := prog_9_method_6_code
def yX7_readBald : MethodName := ⟨RX7, "readBald", "()Z"⟩
abbrev cX7_readNumber : ByteArray := prog_9_method_7_code
def yX7_readNumber : MethodName := ⟨RX7, "readNumber", "()I"⟩
abbrev cX7_readEither : ByteArray := prog_9_method_8_code
def yX7_readEither : MethodName := ⟨RX7, "readEither", "(I)Z"⟩
abbrev cX7_readFactor : ByteArray := prog_9_method_9_code
def yX7_readFactor : MethodName := ⟨RX7, "readFactor", "(I)Z"⟩
abbrev cX7_readTest : ByteArray := prog_9_method_10_code
def yX7_readTest : MethodName := ⟨RX7, "readTest", "()Z"⟩
abbrev cX7_addStep : ByteArray := prog_9_method_11_code
def yX7_addStep : MethodName := ⟨RX7, "addStep", "(II)V"⟩
abbrev cX7_drawsBy : ByteArray := prog_9_method_12_code
def yX7_drawsBy : MethodName := ⟨RX7, "drawsBy", "([I)I"⟩
abbrev cX7_holds : ByteArray := prog_9_method_13_code
def yX7_holds : MethodName := ⟨RX7, "holds", "(I[I)I"⟩
def RX8 : String := "CarpetsLaw$Told"
def TX8 : u_T := fun k => match k with
  | _ => ("", "", "", false)
def tyX8 : Nat → FieldType := fun k => match k with
  | _ => .int
abbrev wsX80 : List Cond := u_ws RX8 TX8 0
theorem nmX8 : ∀ a, a < 0 → ∀ b, b < 0 → a ≠ b → (TX8 a).2.1 ≠ (TX8 b).2.1 := by decide +kernel
theorem tyX8_ok : ∀ k, k < 0 → parseFieldDescriptor (TX8 k).2.2.1 = some (tyX8 k) := by decide +kernel
abbrev cX8_init : ByteArray := prog_10_method_1_code
def yX8_init : MethodName := ⟨RX8, "<init>", "()V"⟩
abbrev cX8_pullBy : ByteArray := prog_10_method_2_code
def yX8_pullBy : MethodName := ⟨RX8, "pullBy", "(ILCarpetsLaw$Hall;II)I"⟩
abbrev cX8_walks : ByteArray := prog_10_method_3_code
def yX8_walks : MethodName := ⟨RX8, "walks", "(LCarpetsLaw$Deed;I)I"⟩
abbrev cX8_bows : ByteArray := prog_10_method_4_code
def yX8_bows : MethodName := ⟨RX8, "bows", "(LCarpetsLaw$Deed;I)I"⟩
def RX9 : String := "CarpetsLaw$Train"
def TX9 : u_T := fun k => match k with
  | _ => ("", "", "", false)
def tyX9 : Nat → FieldType := fun k => match k with
  | _ => .int
abbrev wsX90 : List Cond := u_ws RX9 TX9 0
theorem nmX9 : ∀ a, a < 0 → ∀ b, b < 0 → a ≠ b → (TX9 a).2.1 ≠ (TX9 b).2.1 := by decide +kernel
theorem tyX9_ok : ∀ k, k < 0 → parseFieldDescriptor (TX9 k).2.2.1 = some (tyX9 k) := by decide +kernel
abbrev cX9_init : ByteArray := prog_11_method_1_code
def yX9_init : MethodName := ⟨RX9, "<init>", "()V"⟩
abbrev cX9_tread : ByteArray := prog_11_method_2_code
def yX9_tread : MethodName := ⟨RX9, "tread", "()I"⟩
abbrev cX9_walks : ByteArray := prog_11_method_3_code
def yX9_walks : MethodName := ⟨RX9, "walks", "(LCarpetsLaw$Deed;I)I"⟩
def RX10 : String := "CarpetsLaw$Walker"
def TX10 : u_T := fun k => match k with
  | _ => ("", "", "", false)
def tyX10 : Nat → FieldType := fun k => match k with
  | _ => .int
abbrev wsX100 : List Cond := u_ws RX10 TX10 0
theorem nmX10 : ∀ a, a < 0 → ∀ b, b < 0 → a ≠ b → (TX10 a).2.1 ≠ (TX10 b).2.1 := by decide +kernel
theorem tyX10_ok : ∀ k, k < 0 → parseFieldDescriptor (TX10 k).2.2.1 = some (tyX10 k) := by decide +kernel
abbrev cX10_init : ByteArray := prog_12_method_1_code
def yX10_init : MethodName := ⟨RX10, "<init>", "()V"⟩
abbrev cX10_tread : ByteArray := prog_12_method_2_code
def yX10_tread : MethodName := ⟨RX10, "tread", "()I"⟩
abbrev cX10_pullBy : ByteArray := prog_12_method_3_code
def yX10_pullBy : MethodName := ⟨RX10, "pullBy", "(ILCarpetsLaw$Hall;II)I"⟩
abbrev cX10_bows : ByteArray := prog_12_method_4_code
def yX10_bows : MethodName := ⟨RX10, "bows", "(LCarpetsLaw$Deed;I)I"⟩
abbrev cX10_walks : ByteArray := prog_12_method_5_code
def yX10_walks : MethodName := ⟨RX10, "walks", "(LCarpetsLaw$Deed;I)I"⟩
abbrev cX10_tells : ByteArray := prog_12_method_6_code
def yX10_tells : MethodName := ⟨RX10, "tells", "(LCarpetsLaw$Deed;I)I"⟩
def RX11 : String := "CarpetsLaw"
def TX11 : u_T := fun k => match k with
  | 0 => ("CarpetsLaw", "now", "LCarpetsLaw$Hall;", true)
  | 1 => ("CarpetsLaw", "trial", "LCarpetsLaw$Hall;", true)
  | 2 => ("CarpetsLaw", "seen", "LCarpetsLaw$Rows;", true)
  | 3 => ("CarpetsLaw", "planned", "LCarpetsLaw$Rows;", true)
  | 4 => ("CarpetsLaw", "booked", "LCarpetsLaw$Rows;", true)
  | 5 => ("CarpetsLaw", "hasImage", "Z", false)
  | 6 => ("CarpetsLaw", "imageHall", "LCarpetsLaw$Hall;", true)
  | 7 => ("CarpetsLaw", "imageSeen", "LCarpetsLaw$Rows;", true)
  | 8 => ("CarpetsLaw", "imagePlanned", "LCarpetsLaw$Rows;", true)
  | 9 => ("CarpetsLaw", "imageBooked", "LCarpetsLaw$Rows;", true)
  | 10 => ("CarpetsLaw", "text", "[B", true)
  | 11 => ("CarpetsLaw", "textLength", "I", false)
  | 12 => ("CarpetsLaw", "blank", "LCarpetsLaw$Statute;", false)
  | 13 => ("CarpetsLaw", "statutes", "I", false)
  | 14 => ("CarpetsLaw", "deed", "LCarpetsLaw$Deed;", true)
  | 15 => ("CarpetsLaw", "tapeSorts", "[I", true)
  | 16 => ("CarpetsLaw", "tapeLengths", "[I", true)
  | _ => ("CarpetsLaw", "tapeItems", "[J", true)
def tyX11 : Nat → FieldType := fun k => match k with
  | 0 => .object "CarpetsLaw$Hall"
  | 1 => .object "CarpetsLaw$Hall"
  | 2 => .object "CarpetsLaw$Rows"
  | 3 => .object "CarpetsLaw$Rows"
  | 4 => .object "CarpetsLaw$Rows"
  | 5 => .boolean
  | 6 => .object "CarpetsLaw$Hall"
  | 7 => .object "CarpetsLaw$Rows"
  | 8 => .object "CarpetsLaw$Rows"
  | 9 => .object "CarpetsLaw$Rows"
  | 10 => .array .byte
  | 11 => .int
  | 12 => .object "CarpetsLaw$Statute"
  | 13 => .int
  | 14 => .object "CarpetsLaw$Deed"
  | 15 => .array .int
  | 16 => .array .int
  | _ => .array .long
abbrev wsX110 : List Cond := u_ws RX11 TX11 18
theorem nmX11 : ∀ a, a < 18 → ∀ b, b < 18 → a ≠ b → (TX11 a).2.1 ≠ (TX11 b).2.1 := by decide +kernel
theorem tyX11_ok : ∀ k, k < 18 → parseFieldDescriptor (TX11 k).2.2.1 = some (tyX11 k) := by decide +kernel
abbrev cX11_init : ByteArray := prog_1_method_1_code
def yX11_init : MethodName := ⟨RX11, "<init>", "()V"⟩
abbrev cX11_one : ByteArray := prog_1_method_2_code
def yX11_one : MethodName := ⟨RX11, "one", "(III)I"⟩
abbrev cX11_of : ByteArray := prog_1_method_3_code
def yX11_of : MethodName := ⟨RX11, "of", "(II)I"⟩
abbrev cX11_pull : ByteArray := prog_1_method_4_code
def yX11_pull : MethodName := ⟨RX11, "pull", "(II)I"⟩
abbrev cX11_put : ByteArray := prog_1_method_5_code
def yX11_put : MethodName := ⟨RX11, "put", "(II)I"⟩
abbrev cX11_wear : ByteArray := prog_1_method_6_code
def yX11_wear : MethodName := ⟨RX11, "wear", "(II)I"⟩
abbrev cX11_away : ByteArray := prog_1_method_7_code
def yX11_away : MethodName := ⟨RX11, "away", "(IZ)I"⟩
abbrev cX11_row : ByteArray := prog_1_method_8_code
def yX11_row : MethodName := ⟨RX11, "row", "(III)I"⟩
abbrev cX11_feed : ByteArray := prog_1_method_9_code
def yX11_feed : MethodName := ⟨RX11, "feed", "(I)I"⟩
abbrev cX11_statute : ByteArray := prog_1_method_10_code
def yX11_statute : MethodName := ⟨RX11, "statute", "()I"⟩
abbrev cX11_told : ByteArray := prog_1_method_11_code
def yX11_told : MethodName := ⟨RX11, "told", "(I)I"⟩
abbrev cX11_pass : ByteArray := prog_1_method_12_code
def yX11_pass : MethodName := ⟨RX11, "pass", "(I)I"⟩
abbrev cX11_on : ByteArray := prog_1_method_13_code
def yX11_on : MethodName := ⟨RX11, "on", "(II)I"⟩
abbrev cX11_way : ByteArray := prog_1_method_14_code
def yX11_way : MethodName := ⟨RX11, "way", "(III)I"⟩
abbrev cX11_night : ByteArray := prog_1_method_15_code
def yX11_night : MethodName := ⟨RX11, "night", "(II)I"⟩
abbrev cX11_see : ByteArray := prog_1_method_16_code
def yX11_see : MethodName := ⟨RX11, "see", "(III)I"⟩
abbrev cX11_from : ByteArray := prog_1_method_17_code
def yX11_from : MethodName := ⟨RX11, "from", "(I)I"⟩
abbrev cX11_can : ByteArray := prog_1_method_18_code
def yX11_can : MethodName := ⟨RX11, "can", "(II)I"⟩
abbrev cX11_odds : ByteArray := prog_1_method_19_code
def yX11_odds : MethodName := ⟨RX11, "odds", "(III)J"⟩
abbrev cX11_mean : ByteArray := prog_1_method_20_code
def yX11_mean : MethodName := ⟨RX11, "mean", "(II)J"⟩
abbrev cX11_plan : ByteArray := prog_1_method_21_code
def yX11_plan : MethodName := ⟨RX11, "plan", "(II)I"⟩
abbrev cX11_ends : ByteArray := prog_1_method_22_code
def yX11_ends : MethodName := ⟨RX11, "ends", "(I)I"⟩
abbrev cX11_book : ByteArray := prog_1_method_23_code
def yX11_book : MethodName := ⟨RX11, "book", "(II)I"⟩
abbrev cX11_looked : ByteArray := prog_1_method_24_code
def yX11_looked : MethodName := ⟨RX11, "looked", "()I"⟩
abbrev cX11_judge : ByteArray := prog_1_method_25_code
def yX11_judge : MethodName := ⟨RX11, "judge", "(II)I"⟩
abbrev cX11_image : ByteArray := prog_1_method_26_code
def yX11_image : MethodName := ⟨RX11, "image", "()I"⟩
abbrev cX11_undo : ByteArray := prog_1_method_27_code
def yX11_undo : MethodName := ⟨RX11, "undo", "()I"⟩
abbrev cX11_act : ByteArray := prog_1_method_28_code
def yX11_act : MethodName := ⟨RX11, "act", "(III)I"⟩
abbrev cX11_trace : ByteArray := prog_1_method_29_code
def yX11_trace : MethodName := ⟨RX11, "trace", "(I)I"⟩
abbrev cX11_taken : ByteArray := prog_1_method_30_code
def yX11_taken : MethodName := ⟨RX11, "taken", "(II)I"⟩
abbrev cX11_count : ByteArray := prog_1_method_31_code
def yX11_count : MethodName := ⟨RX11, "count", "(I)I"⟩
abbrev cX11_tape : ByteArray := prog_1_method_32_code
def yX11_tape : MethodName := ⟨RX11, "tape", "(III)I"⟩
abbrev cX11_item : ByteArray := prog_1_method_33_code
def yX11_item : MethodName := ⟨RX11, "item", "(IIJ)I"⟩
abbrev cX11_read : ByteArray := prog_1_method_34_code
def yX11_read : MethodName := ⟨RX11, "read", "(II)J"⟩
abbrev cX11_shift : ByteArray := prog_1_method_35_code
def yX11_shift : MethodName := ⟨RX11, "shift", "(IIIII)I"⟩
abbrev cX11_isPerson : ByteArray := prog_1_method_36_code
def yX11_isPerson : MethodName := ⟨RX11, "isPerson", "(I)Z"⟩
abbrev cX11_isCell : ByteArray := prog_1_method_37_code
def yX11_isCell : MethodName := ⟨RX11, "isCell", "(I)Z"⟩
abbrev cX11_isDigit : ByteArray := prog_1_method_38_code
def yX11_isDigit : MethodName := ⟨RX11, "isDigit", "(I)Z"⟩
abbrev cX11_isAskedSpan : ByteArray := prog_1_method_39_code
def yX11_isAskedSpan : MethodName := ⟨RX11, "isAskedSpan", "(I)Z"⟩
abbrev cX11_isFractionPart : ByteArray := prog_1_method_40_code
def yX11_isFractionPart : MethodName := ⟨RX11, "isFractionPart", "(I)Z"⟩
abbrev cX11_isTape : ByteArray := prog_1_method_41_code
def yX11_isTape : MethodName := ⟨RX11, "isTape", "(I)Z"⟩
abbrev cX11_hasItems : ByteArray := prog_1_method_42_code
def yX11_hasItems : MethodName := ⟨RX11, "hasItems", "(III)Z"⟩
abbrev cX11_asItem : ByteArray := prog_1_method_43_code
def yX11_asItem : MethodName := ⟨RX11, "asItem", "(IJ)J"⟩
abbrev cX11_nextTo : ByteArray := prog_1_method_44_code
def yX11_nextTo : MethodName := ⟨RX11, "nextTo", "(II)I"⟩
abbrev cX11_isNext : ByteArray := prog_1_method_45_code
def yX11_isNext : MethodName := ⟨RX11, "isNext", "(II)Z"⟩
abbrev cX11_shareOfCells : ByteArray := prog_1_method_46_code
def yX11_shareOfCells : MethodName := ⟨RX11, "shareOfCells", "(II)J"⟩
abbrev cX11_blockOf : ByteArray := prog_1_method_47_code
def yX11_blockOf : MethodName := ⟨RX11, "blockOf", "(II)I"⟩
abbrev cX11_leaveAloneInTrial : ByteArray := prog_1_method_48_code
def yX11_leaveAloneInTrial : MethodName := ⟨RX11, "leaveAloneInTrial", "(I)V"⟩
abbrev cX11_orTooLate : ByteArray := prog_1_method_49_code
def yX11_orTooLate : MethodName := ⟨RX11, "orTooLate", "(I)I"⟩
abbrev cX11_trialGoesAsSeen : ByteArray := prog_1_method_50_code
def yX11_trialGoesAsSeen : MethodName := ⟨RX11, "trialGoesAsSeen", "()Z"⟩
abbrev cX11_trialIsAsSeen : ByteArray := prog_1_method_51_code
def yX11_trialIsAsSeen : MethodName := ⟨RX11, "trialIsAsSeen", "(I)Z"⟩
abbrev cX11_carryOutInTrial : ByteArray := prog_1_method_52_code
def yX11_carryOutInTrial : MethodName := ⟨RX11, "carryOutInTrial", "(II)V"⟩
def RX12 : String := "CarpetsLawModel"
def TX12 : u_T := fun k => match k with
  | 0 => ("CarpetsLawModel", "wear", "[I", true)
  | 1 => ("CarpetsLawModel", "people", "I", false)
  | 2 => ("CarpetsLawModel", "kind", "[I", true)
  | 3 => ("CarpetsLawModel", "v", "[I", true)
  | 4 => ("CarpetsLawModel", "place", "[I", true)
  | 5 => ("CarpetsLawModel", "away", "[I", true)
  | 6 => ("CarpetsLawModel", "rows", "[I", true)
  | 7 => ("CarpetsLawModel", "hour", "I", false)
  | 8 => ("CarpetsLawModel", "texted", "I", false)
  | 9 => ("CarpetsLawModel", "text", "[I", true)
  | 10 => ("CarpetsLawModel", "at", "I", false)
  | 11 => ("CarpetsLawModel", "value", "I", false)
  | 12 => ("CarpetsLawModel", "digits", "I", false)
  | 13 => ("CarpetsLawModel", "open", "I", false)
  | 14 => ("CarpetsLawModel", "statutes", "I", false)
  | 15 => ("CarpetsLawModel", "holds", "I", false)
  | 16 => ("CarpetsLawModel", "clauses", "[I", true)
  | 17 => ("CarpetsLawModel", "word", "[I", true)
  | 18 => ("CarpetsLawModel", "number", "[I", true)
  | 19 => ("CarpetsLawModel", "begins", "[I", true)
  | 20 => ("CarpetsLawModel", "length", "[I", true)
  | 21 => ("CarpetsLawModel", "code", "[I", true)
  | 22 => ("CarpetsLawModel", "coded", "I", false)
  | 23 => ("CarpetsLawModel", "stack", "[Z", true)
  | 24 => ("CarpetsLawModel", "seen", "I", false)
  | 25 => ("CarpetsLawModel", "seenOf", "[I", true)
  | 26 => ("CarpetsLawModel", "seenIn", "[I", true)
  | 27 => ("CarpetsLawModel", "seenCell", "[I", true)
  | 28 => ("CarpetsLawModel", "inPlan", "I", false)
  | 29 => ("CarpetsLawModel", "goes", "[I", true)
  | 30 => ("CarpetsLawModel", "whose", "[I", true)
  | 31 => ("CarpetsLawModel", "inBook", "I", false)
  | 32 => ("CarpetsLawModel", "booked", "[I", true)
  | 33 => ("CarpetsLawModel", "bookCell", "[I", true)
  | 34 => ("CarpetsLawModel", "traced", "I", false)
  | 35 => ("CarpetsLawModel", "traces", "[I", true)
  | 36 => ("CarpetsLawModel", "imaged", "Z", false)
  | 37 => ("CarpetsLawModel", "image", "[I", true)
  | 38 => ("CarpetsLawModel", "ahead", "[I", true)
  | 39 => ("CarpetsLawModel", "before", "[I", true)
  | 40 => ("CarpetsLawModel", "far", "[I", true)
  | 41 => ("CarpetsLawModel", "tapeSort", "[I", true)
  | 42 => ("CarpetsLawModel", "tapeSize", "[I", true)
  | _ => ("CarpetsLawModel", "items", "[J", true)
def tyX12 : Nat → FieldType := fun k => match k with
  | 0 => .array .int
  | 1 => .int
  | 2 => .array .int
  | 3 => .array .int
  | 4 => .array .int
  | 5 => .array .int
  | 6 => .array .int
  | 7 => .int
  | 8 => .int
  | 9 => .array .int
  | 10 => .int
  | 11 => .int
  | 12 => .int
  | 13 => .int
  | 14 => .int
  | 15 => .int
  | 16 => .array .int
  | 17 => .array .int
  | 18 => .array .int
  | 19 => .array .int
  | 20 => .array .int
  | 21 => .array .int
  | 22 => .int
  | 23 => .array .boolean
  | 24 => .int
  | 25 => .array .int
  | 26 => .array .int
  | 27 => .array .int
  | 28 => .int
  | 29 => .array .int
  | 30 => .array .int
  | 31 => .int
  | 32 => .array .int
  | 33 => .array .int
  | 34 => .int
  | 35 => .array .int
  | 36 => .boolean
  | 37 => .array .int
  | 38 => .array .int
  | 39 => .array .int
  | 40 => .array .int
  | 41 => .array .int
  | 42 => .array .int
  | _ => .array .long
abbrev wsX120 : List Cond := u_ws RX12 TX12 44
theorem nmX12 : ∀ a, a < 44 → ∀ b, b < 44 → a ≠ b → (TX12 a).2.1 ≠ (TX12 b).2.1 := by decide +kernel
theorem tyX12_ok : ∀ k, k < 44 → parseFieldDescriptor (TX12 k).2.2.1 = some (tyX12 k) := by decide +kernel
abbrev cX12_init : ByteArray := prog_14_method_1_code
def yX12_init : MethodName := ⟨RX12, "<init>", "()V"⟩
abbrev cX12_within : ByteArray := prog_14_method_2_code
def yX12_within : MethodName := ⟨RX12, "within", "(III)Z"⟩
abbrev cX12_isOne : ByteArray := prog_14_method_3_code
def yX12_isOne : MethodName := ⟨RX12, "isOne", "(I)Z"⟩
abbrev cX12_isCell : ByteArray := prog_14_method_4_code
def yX12_isCell : MethodName := ⟨RX12, "isCell", "(I)Z"⟩
abbrev cX12_one : ByteArray := prog_14_method_5_code
def yX12_one : MethodName := ⟨RX12, "one", "(III)I"⟩
abbrev cX12_of : ByteArray := prog_14_method_6_code
def yX12_of : MethodName := ⟨RX12, "of", "(II)I"⟩
abbrev cX12_pull : ByteArray := prog_14_method_7_code
def yX12_pull : MethodName := ⟨RX12, "pull", "(II)I"⟩
abbrev cX12_put : ByteArray := prog_14_method_8_code
def yX12_put : MethodName := ⟨RX12, "put", "(II)I"⟩
abbrev cX12_wear : ByteArray := prog_14_method_9_code
def yX12_wear : MethodName := ⟨RX12, "wear", "(II)I"⟩
abbrev cX12_away : ByteArray := prog_14_method_10_code
def yX12_away : MethodName := ⟨RX12, "away", "(IZ)I"⟩
abbrev cX12_row : ByteArray := prog_14_method_11_code
def yX12_row : MethodName := ⟨RX12, "row", "(III)I"⟩
abbrev cX12_feed : ByteArray := prog_14_method_12_code
def yX12_feed : MethodName := ⟨RX12, "feed", "(I)I"⟩
abbrev cX12_is : ByteArray := prog_14_method_13_code
def yX12_is : MethodName := ⟨RX12, "is", "(I)Z"⟩
abbrev cX12_isDigit : ByteArray := prog_14_method_14_code
def yX12_isDigit : MethodName := ⟨RX12, "isDigit", "()Z"⟩
abbrev cX12_isNumber : ByteArray := prog_14_method_15_code
def yX12_isNumber : MethodName := ⟨RX12, "isNumber", "()Z"⟩
abbrev cX12_isAll : ByteArray := prog_14_method_16_code
def yX12_isAll : MethodName := ⟨RX12, "isAll", "(Ljava/lang/String;)Z"⟩
abbrev cX12_codes : ByteArray := prog_14_method_17_code
def yX12_codes : MethodName := ⟨RX12, "codes", "(I)Z"⟩
abbrev cX12_isTest : ByteArray := prog_14_method_18_code
def yX12_isTest : MethodName := ⟨RX12, "isTest", "()Z"⟩
abbrev cX12_isOpened : ByteArray := prog_14_method_19_code
def yX12_isOpened : MethodName := ⟨RX12, "isOpened", "(I)Z"⟩
abbrev cX12_isF : ByteArray := prog_14_method_20_code
def yX12_isF : MethodName := ⟨RX12, "isF", "()Z"⟩
abbrev cX12_isT : ByteArray := prog_14_method_21_code
def yX12_isT : MethodName := ⟨RX12, "isT", "()Z"⟩
abbrev cX12_isE : ByteArray := prog_14_method_22_code
def yX12_isE : MethodName := ⟨RX12, "isE", "()Z"⟩
abbrev cX12_isClause : ByteArray := prog_14_method_23_code
def yX12_isClause : MethodName := ⟨RX12, "isClause", "(I)Z"⟩
abbrev cX12_statute : ByteArray := prog_14_method_24_code
def yX12_statute : MethodName := ⟨RX12, "statute", "()I"⟩
abbrev cX12_letterOf : ByteArray := prog_14_method_25_code
def yX12_letterOf : MethodName := ⟨RX12, "letterOf", "(III)I"⟩
abbrev cX12_isTrue : ByteArray := prog_14_method_26_code
def yX12_isTrue : MethodName := ⟨RX12, "isTrue", "(III)Z"⟩
abbrev cX12_sum : ByteArray := prog_14_method_27_code
def yX12_sum : MethodName := ⟨RX12, "sum", "(II)I"⟩
abbrev cX12_baldFrom : ByteArray := prog_14_method_28_code
def yX12_baldFrom : MethodName := ⟨RX12, "baldFrom", "()I"⟩
abbrev cX12_pullOf : ByteArray := prog_14_method_29_code
def yX12_pullOf : MethodName := ⟨RX12, "pullOf", "(II)I"⟩
abbrev cX12_tread : ByteArray := prog_14_method_30_code
def yX12_tread : MethodName := ⟨RX12, "tread", "(I)I"⟩
abbrev cX12_isBald : ByteArray := prog_14_method_31_code
def yX12_isBald : MethodName := ⟨RX12, "isBald", "(I)Z"⟩
abbrev cX12_next : ByteArray := prog_14_method_32_code
def yX12_next : MethodName := ⟨RX12, "next", "(II)I"⟩
abbrev cX12_sent : ByteArray := prog_14_method_33_code
def yX12_sent : MethodName := ⟨RX12, "sent", "(I)I"⟩
abbrev cX12_held : ByteArray := prog_14_method_34_code
def yX12_held : MethodName := ⟨RX12, "held", "(I)I"⟩
abbrev cX12_goesHour : ByteArray := prog_14_method_35_code
def yX12_goesHour : MethodName := ⟨RX12, "goesHour", "()V"⟩
abbrev cX12_balds : ByteArray := prog_14_method_36_code
def yX12_balds : MethodName := ⟨RX12, "balds", "()I"⟩
abbrev cX12_allWear : ByteArray := prog_14_method_37_code
def yX12_allWear : MethodName := ⟨RX12, "allWear", "()I"⟩
abbrev cX12_beating : ByteArray := prog_14_method_38_code
def yX12_beating : MethodName := ⟨RX12, "beating", "()I"⟩
abbrev cX12_told : ByteArray := prog_14_method_39_code
def yX12_told : MethodName := ⟨RX12, "told", "(I)I"⟩
abbrev cX12_pass : ByteArray := prog_14_method_40_code
def yX12_pass : MethodName := ⟨RX12, "pass", "(I)I"⟩
abbrev cX12_on : ByteArray := prog_14_method_41_code
def yX12_on : MethodName := ⟨RX12, "on", "(II)I"⟩
abbrev cX12_gets : ByteArray := prog_14_method_42_code
def yX12_gets : MethodName := ⟨RX12, "gets", "(II)I"⟩
abbrev cX12_steps : ByteArray := prog_14_method_43_code
def yX12_steps : MethodName := ⟨RX12, "steps", "(II)I"⟩
abbrev cX12_block : ByteArray := prog_14_method_44_code
def yX12_block : MethodName := ⟨RX12, "block", "(II)I"⟩
abbrev cX12_way : ByteArray := prog_14_method_45_code
def yX12_way : MethodName := ⟨RX12, "way", "(III)I"⟩
abbrev cX12_areNext : ByteArray := prog_14_method_46_code
def yX12_areNext : MethodName := ⟨RX12, "areNext", "(II)Z"⟩
abbrev cX12_night : ByteArray := prog_14_method_47_code
def yX12_night : MethodName := ⟨RX12, "night", "(II)I"⟩
abbrev cX12_see : ByteArray := prog_14_method_48_code
def yX12_see : MethodName := ⟨RX12, "see", "(III)I"⟩
abbrev cX12_isSeen : ByteArray := prog_14_method_49_code
def yX12_isSeen : MethodName := ⟨RX12, "isSeen", "()Z"⟩
abbrev cX12_from : ByteArray := prog_14_method_50_code
def yX12_from : MethodName := ⟨RX12, "from", "(I)I"⟩
abbrev cX12_can : ByteArray := prog_14_method_51_code
def yX12_can : MethodName := ⟨RX12, "can", "(II)I"⟩
abbrev cX12_part : ByteArray := prog_14_method_52_code
def yX12_part : MethodName := ⟨RX12, "part", "(III)J"⟩
abbrev cX12_odds : ByteArray := prog_14_method_53_code
def yX12_odds : MethodName := ⟨RX12, "odds", "(III)J"⟩
abbrev cX12_mean : ByteArray := prog_14_method_54_code
def yX12_mean : MethodName := ⟨RX12, "mean", "(II)J"⟩
abbrev cX12_plan : ByteArray := prog_14_method_55_code
def yX12_plan : MethodName := ⟨RX12, "plan", "(II)I"⟩
abbrev cX12_ends : ByteArray := prog_14_method_56_code
def yX12_ends : MethodName := ⟨RX12, "ends", "(I)I"⟩
abbrev cX12_book : ByteArray := prog_14_method_57_code
def yX12_book : MethodName := ⟨RX12, "book", "(II)I"⟩
abbrev cX12_looked : ByteArray := prog_14_method_58_code
def yX12_looked : MethodName := ⟨RX12, "looked", "()I"⟩
abbrev cX12_judge : ByteArray := prog_14_method_59_code
def yX12_judge : MethodName := ⟨RX12, "judge", "(II)I"⟩
abbrev cX12_keep : ByteArray := prog_14_method_60_code
def yX12_keep : MethodName := ⟨RX12, "keep", "([I)V"⟩
abbrev cX12_again : ByteArray := prog_14_method_61_code
def yX12_again : MethodName := ⟨RX12, "again", "([I)V"⟩
abbrev cX12_image : ByteArray := prog_14_method_62_code
def yX12_image : MethodName := ⟨RX12, "image", "()I"⟩
abbrev cX12_undo : ByteArray := prog_14_method_63_code
def yX12_undo : MethodName := ⟨RX12, "undo", "()I"⟩
abbrev cX12_ran : ByteArray := prog_14_method_64_code
def yX12_ran : MethodName := ⟨RX12, "ran", "(I)V"⟩
abbrev cX12_above : ByteArray := prog_14_method_65_code
def yX12_above : MethodName := ⟨RX12, "above", "(I)I"⟩
abbrev cX12_bows : ByteArray := prog_14_method_66_code
def yX12_bows : MethodName := ⟨RX12, "bows", "(III)I"⟩
abbrev cX12_walks : ByteArray := prog_14_method_67_code
def yX12_walks : MethodName := ⟨RX12, "walks", "(III)I"⟩
abbrev cX12_tells : ByteArray := prog_14_method_68_code
def yX12_tells : MethodName := ⟨RX12, "tells", "(III)I"⟩
abbrev cX12_act : ByteArray := prog_14_method_69_code
def yX12_act : MethodName := ⟨RX12, "act", "(III)I"⟩
abbrev cX12_trace : ByteArray := prog_14_method_70_code
def yX12_trace : MethodName := ⟨RX12, "trace", "(I)I"⟩
abbrev cX12_taken : ByteArray := prog_14_method_71_code
def yX12_taken : MethodName := ⟨RX12, "taken", "(II)I"⟩
abbrev cX12_count : ByteArray := prog_14_method_72_code
def yX12_count : MethodName := ⟨RX12, "count", "(I)I"⟩
abbrev cX12_isTape : ByteArray := prog_14_method_73_code
def yX12_isTape : MethodName := ⟨RX12, "isTape", "(I)Z"⟩
abbrev cX12_tape : ByteArray := prog_14_method_74_code
def yX12_tape : MethodName := ⟨RX12, "tape", "(III)I"⟩
abbrev cX12_kept : ByteArray := prog_14_method_75_code
def yX12_kept : MethodName := ⟨RX12, "kept", "(IJ)J"⟩
abbrev cX12_item : ByteArray := prog_14_method_76_code
def yX12_item : MethodName := ⟨RX12, "item", "(IIJ)I"⟩
abbrev cX12_read : ByteArray := prog_14_method_77_code
def yX12_read : MethodName := ⟨RX12, "read", "(II)J"⟩
abbrev cX12_shift : ByteArray := prog_14_method_78_code
def yX12_shift : MethodName := ⟨RX12, "shift", "(IIIII)I"⟩
def RJ11 : String := "java/lang/Character"
def TJ11 : u_T := fun k => match k with
  | _ => ("", "", "", false)
def tyJ11 : Nat → FieldType := fun k => match k with
  | _ => .int
abbrev wsJ110 : List Cond := u_ws RJ11 TJ11 0
theorem nmJ11 : ∀ a, a < 0 → ∀ b, b < 0 → a ≠ b → (TJ11 a).2.1 ≠ (TJ11 b).2.1 := by decide +kernel
theorem tyJ11_ok : ∀ k, k < 0 → parseFieldDescriptor (TJ11 k).2.2.1 = some (tyJ11 k) := by decide +kernel
abbrev cJ11_isValidCodePoint_9a6ad : ByteArray := prog_15_method_11_code
def yJ11_isValidCodePoint_9a6ad : MethodName := ⟨RJ11, "isValidCodePoint", "(I)Z"⟩
abbrev cJ11_highSurrogate_5068e : ByteArray := prog_15_method_28_code
def yJ11_highSurrogate_5068e : MethodName := ⟨RJ11, "highSurrogate", "(I)C"⟩
abbrev cJ11_lowSurrogate_5068e : ByteArray := prog_15_method_29_code
def yJ11_lowSurrogate_5068e : MethodName := ⟨RJ11, "lowSurrogate", "(I)C"⟩
def RJ9 : String := "java/lang/Math"
def TJ9 : u_T := fun k => match k with
  | _ => ("", "", "", false)
def tyJ9 : Nat → FieldType := fun k => match k with
  | _ => .int
abbrev wsJ90 : List Cond := u_ws RJ9 TJ9 0
theorem nmJ9 : ∀ a, a < 0 → ∀ b, b < 0 → a ≠ b → (TJ9 a).2.1 ≠ (TJ9 b).2.1 := by decide +kernel
theorem tyJ9_ok : ∀ k, k < 0 → parseFieldDescriptor (TJ9 k).2.2.1 = some (tyJ9 k) := by decide +kernel
abbrev cJ9_max_7cf53 : ByteArray := prog_16_method_65_code
def yJ9_max_7cf53 : MethodName := ⟨RJ9, "max", "(II)I"⟩
abbrev cJ9_min_7cf53 : ByteArray := prog_16_method_69_code
def yJ9_min_7cf53 : MethodName := ⟨RJ9, "min", "(II)I"⟩
def RJ0 : String := "java/lang/String"
def TJ0 : u_T := fun k => match k with
  | _ => ("", "", "", false)
def tyJ0 : Nat → FieldType := fun k => match k with
  | _ => .int
abbrev wsJ00 : List Cond := u_ws RJ0 TJ0 0
theorem nmJ0 : ∀ a, a < 0 → ∀ b, b < 0 → a ≠ b → (TJ0 a).2.1 ≠ (TJ0 b).2.1 := by decide +kernel
theorem tyJ0_ok : ∀ k, k < 0 → parseFieldDescriptor (TJ0 k).2.2.1 = some (tyJ0 k) := by decide +kernel
abbrev cJ0_length_8abf5 : ByteArray := prog_17_method_54_code
def yJ0_length_8abf5 : MethodName := ⟨RJ0, "length", "()I"⟩
abbrev cJ0_charAt_5068e : ByteArray := prog_17_method_56_code
def yJ0_charAt_5068e : MethodName := ⟨RJ0, "charAt", "(I)C"⟩
abbrev cJ0_indexOf_0f7a4 : ByteArray := prog_17_method_79_code
def yJ0_indexOf_0f7a4 : MethodName := ⟨RJ0, "indexOf", "(I)I"⟩
abbrev cJ0_indexOf_7cf53 : ByteArray := prog_17_method_80_code
def yJ0_indexOf_7cf53 : MethodName := ⟨RJ0, "indexOf", "(II)I"⟩
abbrev cJ0_coder_7d493 : ByteArray := prog_17_method_152_code
def yJ0_coder_7d493 : MethodName := ⟨RJ0, "coder", "()B"⟩
abbrev cJ0_isLatin1_aae02 : ByteArray := prog_17_method_154_code
def yJ0_isLatin1_aae02 : MethodName := ⟨RJ0, "isLatin1", "()Z"⟩
abbrev cJ0_checkIndex_df160 : ByteArray := prog_17_method_155_code
def yJ0_checkIndex_df160 : MethodName := ⟨RJ0, "checkIndex", "(II)V"⟩
abbrev cJ0_checkBoundsBeginEnd_23922 : ByteArray := prog_17_method_158_code
def yJ0_checkBoundsBeginEnd_23922 : MethodName := ⟨RJ0, "checkBoundsBeginEnd", "(III)V"⟩
def RJ1 : String := "java/lang/StringLatin1"
def TJ1 : u_T := fun k => match k with
  | _ => ("", "", "", false)
def tyJ1 : Nat → FieldType := fun k => match k with
  | _ => .int
abbrev wsJ10 : List Cond := u_ws RJ1 TJ1 0
theorem nmJ1 : ∀ a, a < 0 → ∀ b, b < 0 → a ≠ b → (TJ1 a).2.1 ≠ (TJ1 b).2.1 := by decide +kernel
theorem tyJ1_ok : ∀ k, k < 0 → parseFieldDescriptor (TJ1 k).2.2.1 = some (tyJ1 k) := by decide +kernel
abbrev cJ1_charAt_3b067 : ByteArray := prog_18_method_2_code
def yJ1_charAt_3b067 : MethodName := ⟨RJ1, "charAt", "([BI)C"⟩
abbrev cJ1_canEncode_9a6ad : ByteArray := prog_18_method_4_code
def yJ1_canEncode_9a6ad : MethodName := ⟨RJ1, "canEncode", "(I)Z"⟩
abbrev cJ1_indexOf_4cfef : ByteArray := prog_18_method_22_code
def yJ1_indexOf_4cfef : MethodName := ⟨RJ1, "indexOf", "([BIII)I"⟩
abbrev cJ1_indexOfChar_4cfef : ByteArray := prog_18_method_23_code
def yJ1_indexOfChar_4cfef : MethodName := ⟨RJ1, "indexOfChar", "([BIII)I"⟩
def RJ2 : String := "java/lang/StringUTF16"
def TJ2 : u_T := fun k => match k with
  | _ => ("", "", "", false)
def tyJ2 : Nat → FieldType := fun k => match k with
  | _ => .int
abbrev wsJ20 : List Cond := u_ws RJ2 TJ2 0
theorem nmJ2 : ∀ a, a < 0 → ∀ b, b < 0 → a ≠ b → (TJ2 a).2.1 ≠ (TJ2 b).2.1 := by decide +kernel
theorem tyJ2_ok : ∀ k, k < 0 → parseFieldDescriptor (TJ2 k).2.2.1 = some (tyJ2 k) := by decide +kernel
abbrev cJ2_getChar_3b067 : ByteArray := prog_19_method_5_code
def yJ2_getChar_3b067 : MethodName := ⟨RJ2, "getChar", "([BI)C"⟩
abbrev cJ2_length_9d52b : ByteArray := prog_19_method_6_code
def yJ2_length_9d52b : MethodName := ⟨RJ2, "length", "([B)I"⟩
abbrev cJ2_indexOf_4cfef : ByteArray := prog_19_method_40_code
def yJ2_indexOf_4cfef : MethodName := ⟨RJ2, "indexOf", "([BIII)I"⟩
abbrev cJ2_indexOfChar_4cfef : ByteArray := prog_19_method_47_code
def yJ2_indexOfChar_4cfef : MethodName := ⟨RJ2, "indexOfChar", "([BIII)I"⟩
abbrev cJ2_indexOfCharUnsafe_4cfef : ByteArray := prog_19_method_48_code
def yJ2_indexOfCharUnsafe_4cfef : MethodName := ⟨RJ2, "indexOfCharUnsafe", "([BIII)I"⟩
abbrev cJ2_indexOfSupplementary_4cfef : ByteArray := prog_19_method_49_code
def yJ2_indexOfSupplementary_4cfef : MethodName := ⟨RJ2, "indexOfSupplementary", "([BIII)I"⟩
abbrev cJ2_charAt_3b067 : ByteArray := prog_19_method_83_code
def yJ2_charAt_3b067 : MethodName := ⟨RJ2, "charAt", "([BI)C"⟩
abbrev cJ2_checkIndex_2214a : ByteArray := prog_19_method_91_code
def yJ2_checkIndex_2214a : MethodName := ⟨RJ2, "checkIndex", "(I[B)V"⟩
abbrev cJ2_checkBoundsBeginEnd_d044e : ByteArray := prog_19_method_93_code
def yJ2_checkBoundsBeginEnd_d044e : MethodName := ⟨RJ2, "checkBoundsBeginEnd", "(II[B)V"⟩
def RJ10 : String := "java/lang/System"
def TJ10 : u_T := fun k => match k with
  | _ => ("", "", "", false)
def tyJ10 : Nat → FieldType := fun k => match k with
  | _ => .int
abbrev wsJ100 : List Cond := u_ws RJ10 TJ10 0
theorem nmJ10 : ∀ a, a < 0 → ∀ b, b < 0 → a ≠ b → (TJ10 a).2.1 ≠ (TJ10 b).2.1 := by decide +kernel
theorem tyJ10_ok : ∀ k, k < 0 → parseFieldDescriptor (TJ10 k).2.2.1 = some (tyJ10 k) := by decide +kernel
def RJ3 : String := "jdk/internal/util/Preconditions"
def TJ3 : u_T := fun k => match k with
  | _ => ("", "", "", false)
def tyJ3 : Nat → FieldType := fun k => match k with
  | _ => .int
abbrev wsJ30 : List Cond := u_ws RJ3 TJ3 0
theorem nmJ3 : ∀ a, a < 0 → ∀ b, b < 0 → a ≠ b → (TJ3 a).2.1 ≠ (TJ3 b).2.1 := by decide +kernel
theorem tyJ3_ok : ∀ k, k < 0 → parseFieldDescriptor (TJ3 k).2.2.1 = some (tyJ3 k) := by decide +kernel
abbrev cJ3_checkIndex_8e157 : ByteArray := prog_21_method_11_code
def yJ3_checkIndex_8e157 : MethodName := ⟨RJ3, "checkIndex", "(IILjava/util/function/BiFunction;)I"⟩
abbrev cJ3_checkFromToIndex_8c36e : ByteArray := prog_21_method_12_code
def yJ3_checkFromToIndex_8c36e : MethodName := ⟨RJ3, "checkFromToIndex", "(IIILjava/util/function/BiFunction;)I"⟩
def RL : String := "CarpetsLawLaw"
abbrev cL_law : ByteArray := code
def yL_law : MethodName := ⟨RL, "law", "([I)Z"⟩
abbrev vwCl : List vw_C := [(RX0, TX0, 0), (RX1, TX1, 4), (RX2, TX2, 0), (RX3, TX3, 11), (RX4, TX4, 0), (RX5, TX5, 3), (RX6, TX6, 0), (RX7, TX7, 7), (RX8, TX8, 0), (RX9, TX9, 0), (RX10, TX10, 0), (RX11, TX11, 18), (RX12, TX12, 44)]
end
section
theorem dX0_init_0 : decode cX0_init 0 = .ok (.aload_n 0, 1) := by decide +kernel
theorem dX0_init_1 : decode cX0_init 1 = .ok (.invokespecial 1, 3) := by decide +kernel
theorem dX0_init_4 : decode cX0_init 4 = .ok (.return_, 1) := by decide +kernel
theorem dX0_tread_0 : decode cX0_tread 0 = .ok (.iconst 2, 1) := by decide +kernel
theorem dX0_tread_1 : decode cX0_tread 1 = .ok (.ireturn, 1) := by decide +kernel
theorem dX0_pullBy_0 : decode cX0_pullBy 0 = .ok (.aload_n 0, 1) := by decide +kernel
theorem dX0_pullBy_1 : decode cX0_pullBy 1 = .ok (.iload_n 1, 1) := by decide +kernel
theorem dX0_pullBy_2 : decode cX0_pullBy 2 = .ok (.aload_n 2, 1) := by decide +kernel
theorem dX0_pullBy_3 : decode cX0_pullBy 3 = .ok (.iload_n 3, 1) := by decide +kernel
theorem dX0_pullBy_4 : decode cX0_pullBy 4 = .ok (.iload 4, 2) := by decide +kernel
theorem dX0_pullBy_6 : decode cX0_pullBy 6 = .ok (.invokespecial 7, 3) := by decide +kernel
theorem dX0_pullBy_9 : decode cX0_pullBy 9 = .ok (.istore 5, 2) := by decide +kernel
theorem dX0_pullBy_11 : decode cX0_pullBy 11 = .ok (.iload 4, 2) := by decide +kernel
theorem dX0_pullBy_13 : decode cX0_pullBy 13 = .ok (.aload_n 2, 1) := by decide +kernel
theorem dX0_pullBy_14 : decode cX0_pullBy 14 = .ok (.getfield 11, 3) := by decide +kernel
theorem dX0_pullBy_17 : decode cX0_pullBy 17 = .ok (.iload_n 3, 1) := by decide +kernel
theorem dX0_pullBy_18 : decode cX0_pullBy 18 = .ok (.iaload, 1) := by decide +kernel
theorem dX0_pullBy_19 : decode cX0_pullBy 19 = .ok (.iconst 1, 1) := by decide +kernel
theorem dX0_pullBy_20 : decode cX0_pullBy 20 = .ok (.invokestatic 17, 3) := by decide +kernel
theorem dX0_pullBy_23 : decode cX0_pullBy 23 = .ok (.if_icmp .ne 11, 3) := by decide +kernel
theorem dX0_pullBy_26 : decode cX0_pullBy 26 = .ok (.iload 5, 2) := by decide +kernel
theorem dX0_pullBy_28 : decode cX0_pullBy 28 = .ok (.bipush 20, 2) := by decide +kernel
theorem dX0_pullBy_30 : decode cX0_pullBy 30 = .ok (.iadd, 1) := by decide +kernel
theorem dX0_pullBy_31 : decode cX0_pullBy 31 = .ok (.goto 5, 3) := by decide +kernel
theorem dX0_pullBy_34 : decode cX0_pullBy 34 = .ok (.iload 5, 2) := by decide +kernel
theorem dX0_pullBy_36 : decode cX0_pullBy 36 = .ok (.ireturn, 1) := by decide +kernel
theorem dX0_tells_0 : decode cX0_tells 0 = .ok (.aload_n 1, 1) := by decide +kernel
theorem dX0_tells_1 : decode cX0_tells 1 = .ok (.bipush 60, 2) := by decide +kernel
theorem dX0_tells_3 : decode cX0_tells 3 = .ok (.invokevirtual 23, 3) := by decide +kernel
theorem dX0_tells_6 : decode cX0_tells 6 = .ok (.aload_n 0, 1) := by decide +kernel
theorem dX0_tells_7 : decode cX0_tells 7 = .ok (.aload_n 1, 1) := by decide +kernel
theorem dX0_tells_8 : decode cX0_tells 8 = .ok (.iload_n 2, 1) := by decide +kernel
theorem dX0_tells_9 : decode cX0_tells 9 = .ok (.aload_n 1, 1) := by decide +kernel
theorem dX0_tells_10 : decode cX0_tells 10 = .ok (.getfield 29, 3) := by decide +kernel
theorem dX0_tells_13 : decode cX0_tells 13 = .ok (.isub, 1) := by decide +kernel
theorem dX0_tells_14 : decode cX0_tells 14 = .ok (.invokespecial 33, 3) := by decide +kernel
theorem dX0_tells_17 : decode cX0_tells 17 = .ok (.ireturn, 1) := by decide +kernel
theorem dX1_init_0 : decode cX1_init 0 = .ok (.aload_n 0, 1) := by decide +kernel
theorem dX1_init_1 : decode cX1_init 1 = .ok (.invokespecial 3, 3) := by decide +kernel
theorem dX1_init_4 : decode cX1_init 4 = .ok (.aload_n 0, 1) := by decide +kernel
theorem dX1_init_5 : decode cX1_init 5 = .ok (.bipush 20, 2) := by decide +kernel
theorem dX1_init_7 : decode cX1_init 7 = .ok (.newarray .int, 2) := by decide +kernel
theorem dX1_init_9 : decode cX1_init 9 = .ok (.putfield 9, 3) := by decide +kernel
theorem dX1_init_12 : decode cX1_init 12 = .ok (.return_, 1) := by decide +kernel
theorem dX1_begin_0 : decode cX1_begin 0 = .ok (.aload_n 0, 1) := by decide +kernel
theorem dX1_begin_1 : decode cX1_begin 1 = .ok (.getfield 15, 3) := by decide +kernel
theorem dX1_begin_4 : decode cX1_begin 4 = .ok (.bipush 20, 2) := by decide +kernel
theorem dX1_begin_6 : decode cX1_begin 6 = .ok (.if_icmp .ge 13, 3) := by decide +kernel
theorem dX1_begin_9 : decode cX1_begin 9 = .ok (.aload_n 0, 1) := by decide +kernel
theorem dX1_begin_10 : decode cX1_begin 10 = .ok (.getfield 9, 3) := by decide +kernel
theorem dX1_begin_13 : decode cX1_begin 13 = .ok (.aload_n 0, 1) := by decide +kernel
theorem dX1_begin_14 : decode cX1_begin 14 = .ok (.getfield 15, 3) := by decide +kernel
theorem dX1_begin_17 : decode cX1_begin 17 = .ok (.iload_n 1, 1) := by decide +kernel
theorem dX1_begin_18 : decode cX1_begin 18 = .ok (.iastore, 1) := by decide +kernel
theorem dX1_begin_19 : decode cX1_begin 19 = .ok (.aload_n 0, 1) := by decide +kernel
theorem dX1_begin_20 : decode cX1_begin 20 = .ok (.dup, 1) := by decide +kernel
theorem dX1_begin_21 : decode cX1_begin 21 = .ok (.getfield 15, 3) := by decide +kernel
theorem dX1_begin_24 : decode cX1_begin 24 = .ok (.iconst 1, 1) := by decide +kernel
theorem dX1_begin_25 : decode cX1_begin 25 = .ok (.iadd, 1) := by decide +kernel
theorem dX1_begin_26 : decode cX1_begin 26 = .ok (.putfield 15, 3) := by decide +kernel
theorem dX1_begin_29 : decode cX1_begin 29 = .ok (.return_, 1) := by decide +kernel
theorem dX2_init_0 : decode cX2_init 0 = .ok (.aload_n 0, 1) := by decide +kernel
theorem dX2_init_1 : decode cX2_init 1 = .ok (.invokespecial 1, 3) := by decide +kernel
theorem dX2_init_4 : decode cX2_init 4 = .ok (.return_, 1) := by decide +kernel
theorem dX2_pullBy_0 : decode cX2_pullBy 0 = .ok (.iload 4, 2) := by decide +kernel
theorem dX2_pullBy_2 : decode cX2_pullBy 2 = .ok (.iconst 2, 1) := by decide +kernel
theorem dX2_pullBy_3 : decode cX2_pullBy 3 = .ok (.irem, 1) := by decide +kernel
theorem dX2_pullBy_4 : decode cX2_pullBy 4 = .ok (.ifCond .ne 14, 3) := by decide +kernel
theorem dX2_pullBy_7 : decode cX2_pullBy 7 = .ok (.iload_n 1, 1) := by decide +kernel
theorem dX2_pullBy_8 : decode cX2_pullBy 8 = .ok (.aload_n 2, 1) := by decide +kernel
theorem dX2_pullBy_9 : decode cX2_pullBy 9 = .ok (.getfield 7, 3) := by decide +kernel
theorem dX2_pullBy_12 : decode cX2_pullBy 12 = .ok (.iload_n 3, 1) := by decide +kernel
theorem dX2_pullBy_13 : decode cX2_pullBy 13 = .ok (.iaload, 1) := by decide +kernel
theorem dX2_pullBy_14 : decode cX2_pullBy 14 = .ok (.iadd, 1) := by decide +kernel
theorem dX2_pullBy_15 : decode cX2_pullBy 15 = .ok (.goto 4, 3) := by decide +kernel
theorem dX2_pullBy_18 : decode cX2_pullBy 18 = .ok (.iload_n 1, 1) := by decide +kernel
theorem dX2_pullBy_19 : decode cX2_pullBy 19 = .ok (.ireturn, 1) := by decide +kernel
theorem dX2_bows_0 : decode cX2_bows 0 = .ok (.aload_n 1, 1) := by decide +kernel
theorem dX2_bows_1 : decode cX2_bows 1 = .ok (.bipush 50, 2) := by decide +kernel
theorem dX2_bows_3 : decode cX2_bows 3 = .ok (.invokevirtual 13, 3) := by decide +kernel
theorem dX2_bows_6 : decode cX2_bows 6 = .ok (.aload_n 0, 1) := by decide +kernel
theorem dX2_bows_7 : decode cX2_bows 7 = .ok (.aload_n 1, 1) := by decide +kernel
theorem dX2_bows_8 : decode cX2_bows 8 = .ok (.iload_n 2, 1) := by decide +kernel
theorem dX2_bows_9 : decode cX2_bows 9 = .ok (.invokespecial 19, 3) := by decide +kernel
theorem dX2_bows_12 : decode cX2_bows 12 = .ok (.ineg, 1) := by decide +kernel
theorem dX2_bows_13 : decode cX2_bows 13 = .ok (.ireturn, 1) := by decide +kernel
theorem dX2_walks_0 : decode cX2_walks 0 = .ok (.aload_n 1, 1) := by decide +kernel
theorem dX2_walks_1 : decode cX2_walks 1 = .ok (.bipush 51, 2) := by decide +kernel
theorem dX2_walks_3 : decode cX2_walks 3 = .ok (.invokevirtual 13, 3) := by decide +kernel
theorem dX2_walks_6 : decode cX2_walks 6 = .ok (.aload_n 0, 1) := by decide +kernel
theorem dX2_walks_7 : decode cX2_walks 7 = .ok (.aload_n 1, 1) := by decide +kernel
theorem dX2_walks_8 : decode cX2_walks 8 = .ok (.iload_n 2, 1) := by decide +kernel
theorem dX2_walks_9 : decode cX2_walks 9 = .ok (.iconst 1, 1) := by decide +kernel
theorem dX2_walks_10 : decode cX2_walks 10 = .ok (.iadd, 1) := by decide +kernel
theorem dX2_walks_11 : decode cX2_walks 11 = .ok (.invokespecial 23, 3) := by decide +kernel
theorem dX2_walks_14 : decode cX2_walks 14 = .ok (.ireturn, 1) := by decide +kernel
theorem dX3_init_0 : decode cX3_init 0 = .ok (.aload_n 0, 1) := by decide +kernel
theorem dX3_init_1 : decode cX3_init 1 = .ok (.invokespecial 3, 3) := by decide +kernel
theorem dX3_init_4 : decode cX3_init 4 = .ok (.aload_n 0, 1) := by decide +kernel
theorem dX3_init_5 : decode cX3_init 5 = .ok (.bipush 25, 2) := by decide +kernel
theorem dX3_init_7 : decode cX3_init 7 = .ok (.newarray .int, 2) := by decide +kernel
theorem dX3_init_9 : decode cX3_init 9 = .ok (.putfield 9, 3) := by decide +kernel
theorem dX3_init_12 : decode cX3_init 12 = .ok (.aload_n 0, 1) := by decide +kernel
theorem dX3_init_13 : decode cX3_init 13 = .ok (.bipush 6, 2) := by decide +kernel
theorem dX3_init_15 : decode cX3_init 15 = .ok (.newarray .int, 2) := by decide +kernel
theorem dX3_init_17 : decode cX3_init 17 = .ok (.putfield 15, 3) := by decide +kernel
theorem dX3_init_20 : decode cX3_init 20 = .ok (.aload_n 0, 1) := by decide +kernel
theorem dX3_init_21 : decode cX3_init 21 = .ok (.bipush 6, 2) := by decide +kernel
theorem dX3_init_23 : decode cX3_init 23 = .ok (.newarray .int, 2) := by decide +kernel
theorem dX3_init_25 : decode cX3_init 25 = .ok (.putfield 18, 3) := by decide +kernel
theorem dX3_init_28 : decode cX3_init 28 = .ok (.aload_n 0, 1) := by decide +kernel
theorem dX3_init_29 : decode cX3_init 29 = .ok (.bipush 6, 2) := by decide +kernel
theorem dX3_init_31 : decode cX3_init 31 = .ok (.newarray .int, 2) := by decide +kernel
theorem dX3_init_33 : decode cX3_init 33 = .ok (.putfield 21, 3) := by decide +kernel
theorem dX3_init_36 : decode cX3_init 36 = .ok (.aload_n 0, 1) := by decide +kernel
theorem dX3_init_37 : decode cX3_init 37 = .ok (.bipush 6, 2) := by decide +kernel
theorem dX3_init_39 : decode cX3_init 39 = .ok (.newarray .boolean, 2) := by decide +kernel
theorem dX3_init_41 : decode cX3_init 41 = .ok (.putfield 24, 3) := by decide +kernel
theorem dX3_init_44 : decode cX3_init 44 = .ok (.aload_n 0, 1) := by decide +kernel
theorem dX3_init_45 : decode cX3_init 45 = .ok (.bipush 24, 2) := by decide +kernel
theorem dX3_init_47 : decode cX3_init 47 = .ok (.newarray .int, 2) := by decide +kernel
theorem dX3_init_49 : decode cX3_init 49 = .ok (.putfield 28, 3) := by decide +kernel
theorem dX3_init_52 : decode cX3_init 52 = .ok (.aload_n 0, 1) := by decide +kernel
theorem dX3_init_53 : decode cX3_init 53 = .ok (.bipush 6, 2) := by decide +kernel
theorem dX3_init_55 : decode cX3_init 55 = .ok (.newarray .int, 2) := by decide +kernel
theorem dX3_init_57 : decode cX3_init 57 = .ok (.putfield 31, 3) := by decide +kernel
theorem dX3_init_60 : decode cX3_init 60 = .ok (.aload_n 0, 1) := by decide +kernel
theorem dX3_init_61 : decode cX3_init 61 = .ok (.aload_n 1, 1) := by decide +kernel
theorem dX3_init_62 : decode cX3_init 62 = .ok (.putfield 34, 3) := by decide +kernel
theorem dX3_init_65 : decode cX3_init 65 = .ok (.aload_n 0, 1) := by decide +kernel
theorem dX3_init_66 : decode cX3_init 66 = .ok (.aload_n 2, 1) := by decide +kernel
theorem dX3_init_67 : decode cX3_init 67 = .ok (.putfield 38, 3) := by decide +kernel
theorem dX3_init_70 : decode cX3_init 70 = .ok (.iconst 0, 1) := by decide +kernel
theorem dX3_init_71 : decode cX3_init 71 = .ok (.istore_n 3, 1) := by decide +kernel
theorem dX3_init_72 : decode cX3_init 72 = .ok (.iload_n 3, 1) := by decide +kernel
theorem dX3_init_73 : decode cX3_init 73 = .ok (.bipush 25, 2) := by decide +kernel
theorem dX3_init_75 : decode cX3_init 75 = .ok (.if_icmp .ge 16, 3) := by decide +kernel
theorem dX3_init_78 : decode cX3_init 78 = .ok (.aload_n 0, 1) := by decide +kernel
theorem dX3_init_79 : decode cX3_init 79 = .ok (.getfield 9, 3) := by decide +kernel
theorem dX3_init_82 : decode cX3_init 82 = .ok (.iload_n 3, 1) := by decide +kernel
theorem dX3_init_83 : decode cX3_init 83 = .ok (.iconst 5, 1) := by decide +kernel
theorem dX3_init_84 : decode cX3_init 84 = .ok (.iastore, 1) := by decide +kernel
theorem dX3_init_85 : decode cX3_init 85 = .ok (.iinc 3 1, 3) := by decide +kernel
theorem dX3_init_88 : decode cX3_init 88 = .ok (.goto (-16), 3) := by decide +kernel
theorem dX3_init_91 : decode cX3_init 91 = .ok (.return_, 1) := by decide +kernel
theorem dX3_take_0 : decode cX3_take 0 = .ok (.aload_n 0, 1) := by decide +kernel
theorem dX3_take_1 : decode cX3_take 1 = .ok (.aload_n 1, 1) := by decide +kernel
theorem dX3_take_2 : decode cX3_take 2 = .ok (.getfield 38, 3) := by decide +kernel
theorem dX3_take_5 : decode cX3_take 5 = .ok (.putfield 38, 3) := by decide +kernel
theorem dX3_take_8 : decode cX3_take 8 = .ok (.aload_n 0, 1) := by decide +kernel
theorem dX3_take_9 : decode cX3_take 9 = .ok (.aload_n 1, 1) := by decide +kernel
theorem dX3_take_10 : decode cX3_take 10 = .ok (.getfield 42, 3) := by decide +kernel
theorem dX3_take_13 : decode cX3_take 13 = .ok (.putfield 42, 3) := by decide +kernel
theorem dX3_take_16 : decode cX3_take 16 = .ok (.aload_n 0, 1) := by decide +kernel
theorem dX3_take_17 : decode cX3_take 17 = .ok (.aload_n 1, 1) := by decide +kernel
theorem dX3_take_18 : decode cX3_take 18 = .ok (.getfield 46, 3) := by decide +kernel
theorem dX3_take_21 : decode cX3_take 21 = .ok (.putfield 46, 3) := by decide +kernel
theorem dX3_take_24 : decode cX3_take 24 = .ok (.aload_n 1, 1) := by decide +kernel
theorem dX3_take_25 : decode cX3_take 25 = .ok (.getfield 9, 3) := by decide +kernel
theorem dX3_take_28 : decode cX3_take 28 = .ok (.iconst 0, 1) := by decide +kernel
theorem dX3_take_29 : decode cX3_take 29 = .ok (.aload_n 0, 1) := by decide +kernel
theorem dX3_take_30 : decode cX3_take 30 = .ok (.getfield 9, 3) := by decide +kernel
theorem dX3_take_33 : decode cX3_take 33 = .ok (.iconst 0, 1) := by decide +kernel
theorem dX3_take_34 : decode cX3_take 34 = .ok (.bipush 25, 2) := by decide +kernel
theorem dX3_take_36 : decode cX3_take 36 = .ok (.invokestatic 49, 3) := by decide +kernel
theorem dX3_take_39 : decode cX3_take 39 = .ok (.aload_n 1, 1) := by decide +kernel
theorem dX3_take_40 : decode cX3_take 40 = .ok (.getfield 15, 3) := by decide +kernel
theorem dX3_take_43 : decode cX3_take 43 = .ok (.iconst 0, 1) := by decide +kernel
theorem dX3_take_44 : decode cX3_take 44 = .ok (.aload_n 0, 1) := by decide +kernel
theorem dX3_take_45 : decode cX3_take 45 = .ok (.getfield 15, 3) := by decide +kernel
theorem dX3_take_48 : decode cX3_take 48 = .ok (.iconst 0, 1) := by decide +kernel
theorem dX3_take_49 : decode cX3_take 49 = .ok (.bipush 6, 2) := by decide +kernel
theorem dX3_take_51 : decode cX3_take 51 = .ok (.invokestatic 49, 3) := by decide +kernel
theorem dX3_take_54 : decode cX3_take 54 = .ok (.aload_n 1, 1) := by decide +kernel
theorem dX3_take_55 : decode cX3_take 55 = .ok (.getfield 18, 3) := by decide +kernel
theorem dX3_take_58 : decode cX3_take 58 = .ok (.iconst 0, 1) := by decide +kernel
theorem dX3_take_59 : decode cX3_take 59 = .ok (.aload_n 0, 1) := by decide +kernel
theorem dX3_take_60 : decode cX3_take 60 = .ok (.getfield 18, 3) := by decide +kernel
theorem dX3_take_63 : decode cX3_take 63 = .ok (.iconst 0, 1) := by decide +kernel
theorem dX3_take_64 : decode cX3_take 64 = .ok (.bipush 6, 2) := by decide +kernel
theorem dX3_take_66 : decode cX3_take 66 = .ok (.invokestatic 49, 3) := by decide +kernel
theorem dX3_take_69 : decode cX3_take 69 = .ok (.aload_n 1, 1) := by decide +kernel
theorem dX3_take_70 : decode cX3_take 70 = .ok (.getfield 21, 3) := by decide +kernel
theorem dX3_take_73 : decode cX3_take 73 = .ok (.iconst 0, 1) := by decide +kernel
theorem dX3_take_74 : decode cX3_take 74 = .ok (.aload_n 0, 1) := by decide +kernel
theorem dX3_take_75 : decode cX3_take 75 = .ok (.getfield 21, 3) := by decide +kernel
theorem dX3_take_78 : decode cX3_take 78 = .ok (.iconst 0, 1) := by decide +kernel
theorem dX3_take_79 : decode cX3_take 79 = .ok (.bipush 6, 2) := by decide +kernel
theorem dX3_take_81 : decode cX3_take 81 = .ok (.invokestatic 49, 3) := by decide +kernel
theorem dX3_take_84 : decode cX3_take 84 = .ok (.aload_n 1, 1) := by decide +kernel
theorem dX3_take_85 : decode cX3_take 85 = .ok (.getfield 24, 3) := by decide +kernel
theorem dX3_take_88 : decode cX3_take 88 = .ok (.iconst 0, 1) := by decide +kernel
theorem dX3_take_89 : decode cX3_take 89 = .ok (.aload_n 0, 1) := by decide +kernel
theorem dX3_take_90 : decode cX3_take 90 = .ok (.getfield 24, 3) := by decide +kernel
theorem dX3_take_93 : decode cX3_take 93 = .ok (.iconst 0, 1) := by decide +kernel
theorem dX3_take_94 : decode cX3_take 94 = .ok (.bipush 6, 2) := by decide +kernel
theorem dX3_take_96 : decode cX3_take 96 = .ok (.invokestatic 49, 3) := by decide +kernel
theorem dX3_take_99 : decode cX3_take 99 = .ok (.aload_n 1, 1) := by decide +kernel
theorem dX3_take_100 : decode cX3_take 100 = .ok (.getfield 28, 3) := by decide +kernel
theorem dX3_take_103 : decode cX3_take 103 = .ok (.iconst 0, 1) := by decide +kernel
theorem dX3_take_104 : decode cX3_take 104 = .ok (.aload_n 0, 1) := by decide +kernel
theorem dX3_take_105 : decode cX3_take 105 = .ok (.getfield 28, 3) := by decide +kernel
theorem dX3_take_108 : decode cX3_take 108 = .ok (.iconst 0, 1) := by decide +kernel
theorem dX3_take_109 : decode cX3_take 109 = .ok (.bipush 24, 2) := by decide +kernel
theorem dX3_take_111 : decode cX3_take 111 = .ok (.invokestatic 49, 3) := by decide +kernel
theorem dX3_take_114 : decode cX3_take 114 = .ok (.return_, 1) := by decide +kernel
theorem dX3_welcome_0 : decode cX3_welcome 0 = .ok (.aload_n 0, 1) := by decide +kernel
theorem dX3_welcome_1 : decode cX3_welcome 1 = .ok (.getfield 46, 3) := by decide +kernel
theorem dX3_welcome_4 : decode cX3_welcome 4 = .ok (.bipush 6, 2) := by decide +kernel
theorem dX3_welcome_6 : decode cX3_welcome 6 = .ok (.if_icmp .lt 6, 3) := by decide +kernel
theorem dX3_welcome_9 : decode cX3_welcome 9 = .ok (.bipush (-4), 2) := by decide +kernel
theorem dX3_welcome_11 : decode cX3_welcome 11 = .ok (.ireturn, 1) := by decide +kernel
theorem dX3_welcome_12 : decode cX3_welcome 12 = .ok (.aload_n 0, 1) := by decide +kernel
theorem dX3_welcome_13 : decode cX3_welcome 13 = .ok (.getfield 46, 3) := by decide +kernel
theorem dX3_welcome_16 : decode cX3_welcome 16 = .ok (.istore 4, 2) := by decide +kernel
theorem dX3_welcome_18 : decode cX3_welcome 18 = .ok (.aload_n 0, 1) := by decide +kernel
theorem dX3_welcome_19 : decode cX3_welcome 19 = .ok (.getfield 15, 3) := by decide +kernel
theorem dX3_welcome_22 : decode cX3_welcome 22 = .ok (.iload 4, 2) := by decide +kernel
theorem dX3_welcome_24 : decode cX3_welcome 24 = .ok (.iload_n 1, 1) := by decide +kernel
theorem dX3_welcome_25 : decode cX3_welcome 25 = .ok (.iastore, 1) := by decide +kernel
theorem dX3_welcome_26 : decode cX3_welcome 26 = .ok (.aload_n 0, 1) := by decide +kernel
theorem dX3_welcome_27 : decode cX3_welcome 27 = .ok (.getfield 18, 3) := by decide +kernel
theorem dX3_welcome_30 : decode cX3_welcome 30 = .ok (.iload 4, 2) := by decide +kernel
theorem dX3_welcome_32 : decode cX3_welcome 32 = .ok (.iload_n 2, 1) := by decide +kernel
theorem dX3_welcome_33 : decode cX3_welcome 33 = .ok (.iastore, 1) := by decide +kernel
theorem dX3_welcome_34 : decode cX3_welcome 34 = .ok (.aload_n 0, 1) := by decide +kernel
theorem dX3_welcome_35 : decode cX3_welcome 35 = .ok (.getfield 21, 3) := by decide +kernel
theorem dX3_welcome_38 : decode cX3_welcome 38 = .ok (.iload 4, 2) := by decide +kernel
theorem dX3_welcome_40 : decode cX3_welcome 40 = .ok (.iload_n 3, 1) := by decide +kernel
theorem dX3_welcome_41 : decode cX3_welcome 41 = .ok (.iastore, 1) := by decide +kernel
theorem dX3_welcome_42 : decode cX3_welcome 42 = .ok (.aload_n 0, 1) := by decide +kernel
theorem dX3_welcome_43 : decode cX3_welcome 43 = .ok (.dup, 1) := by decide +kernel
theorem dX3_welcome_44 : decode cX3_welcome 44 = .ok (.getfield 46, 3) := by decide +kernel
theorem dX3_welcome_47 : decode cX3_welcome 47 = .ok (.iconst 1, 1) := by decide +kernel
theorem dX3_welcome_48 : decode cX3_welcome 48 = .ok (.iadd, 1) := by decide +kernel
theorem dX3_welcome_49 : decode cX3_welcome 49 = .ok (.putfield 46, 3) := by decide +kernel
theorem dX3_welcome_52 : decode cX3_welcome 52 = .ok (.iload 4, 2) := by decide +kernel
theorem dX3_welcome_54 : decode cX3_welcome 54 = .ok (.ireturn, 1) := by decide +kernel
theorem dX3_kindOf_0 : decode cX3_kindOf 0 = .ok (.aload_n 0, 1) := by decide +kernel
theorem dX3_kindOf_1 : decode cX3_kindOf 1 = .ok (.getfield 34, 3) := by decide +kernel
theorem dX3_kindOf_4 : decode cX3_kindOf 4 = .ok (.aload_n 0, 1) := by decide +kernel
theorem dX3_kindOf_5 : decode cX3_kindOf 5 = .ok (.getfield 15, 3) := by decide +kernel
theorem dX3_kindOf_8 : decode cX3_kindOf 8 = .ok (.iload_n 1, 1) := by decide +kernel
theorem dX3_kindOf_9 : decode cX3_kindOf 9 = .ok (.iaload, 1) := by decide +kernel
theorem dX3_kindOf_10 : decode cX3_kindOf 10 = .ok (.aaload, 1) := by decide +kernel
theorem dX3_kindOf_11 : decode cX3_kindOf 11 = .ok (.areturn, 1) := by decide +kernel
theorem dX3_isBald_0 : decode cX3_isBald 0 = .ok (.aload_n 0, 1) := by decide +kernel
theorem dX3_isBald_1 : decode cX3_isBald 1 = .ok (.getfield 9, 3) := by decide +kernel
theorem dX3_isBald_4 : decode cX3_isBald 4 = .ok (.iload_n 1, 1) := by decide +kernel
theorem dX3_isBald_5 : decode cX3_isBald 5 = .ok (.iaload, 1) := by decide +kernel
theorem dX3_isBald_6 : decode cX3_isBald 6 = .ok (.aload_n 0, 1) := by decide +kernel
theorem dX3_isBald_7 : decode cX3_isBald 7 = .ok (.getfield 38, 3) := by decide +kernel
theorem dX3_isBald_10 : decode cX3_isBald 10 = .ok (.getfield 55, 3) := by decide +kernel
theorem dX3_isBald_13 : decode cX3_isBald 13 = .ok (.if_icmp .lt 7, 3) := by decide +kernel
theorem dX3_isBald_16 : decode cX3_isBald 16 = .ok (.iconst 1, 1) := by decide +kernel
theorem dX3_isBald_17 : decode cX3_isBald 17 = .ok (.goto 4, 3) := by decide +kernel
theorem dX3_isBald_20 : decode cX3_isBald 20 = .ok (.iconst 0, 1) := by decide +kernel
theorem dX3_isBald_21 : decode cX3_isBald 21 = .ok (.ireturn, 1) := by decide +kernel
theorem dX3_countBald_0 : decode cX3_countBald 0 = .ok (.iconst 0, 1) := by decide +kernel
theorem dX3_countBald_1 : decode cX3_countBald 1 = .ok (.istore_n 1, 1) := by decide +kernel
theorem dX3_countBald_2 : decode cX3_countBald 2 = .ok (.iconst 0, 1) := by decide +kernel
theorem dX3_countBald_3 : decode cX3_countBald 3 = .ok (.istore_n 2, 1) := by decide +kernel
theorem dX3_countBald_4 : decode cX3_countBald 4 = .ok (.iload_n 2, 1) := by decide +kernel
theorem dX3_countBald_5 : decode cX3_countBald 5 = .ok (.bipush 25, 2) := by decide +kernel
theorem dX3_countBald_7 : decode cX3_countBald 7 = .ok (.if_icmp .ge 20, 3) := by decide +kernel
theorem dX3_countBald_10 : decode cX3_countBald 10 = .ok (.aload_n 0, 1) := by decide +kernel
theorem dX3_countBald_11 : decode cX3_countBald 11 = .ok (.iload_n 2, 1) := by decide +kernel
theorem dX3_countBald_12 : decode cX3_countBald 12 = .ok (.invokevirtual 60, 3) := by decide +kernel
theorem dX3_countBald_15 : decode cX3_countBald 15 = .ok (.ifCond .eq 6, 3) := by decide +kernel
theorem dX3_countBald_18 : decode cX3_countBald 18 = .ok (.iinc 1 1, 3) := by decide +kernel
theorem dX3_countBald_21 : decode cX3_countBald 21 = .ok (.iinc 2 1, 3) := by decide +kernel
theorem dX3_countBald_24 : decode cX3_countBald 24 = .ok (.goto (-20), 3) := by decide +kernel
theorem dX3_countBald_27 : decode cX3_countBald 27 = .ok (.iload_n 1, 1) := by decide +kernel
theorem dX3_countBald_28 : decode cX3_countBald 28 = .ok (.ireturn, 1) := by decide +kernel
theorem dX3_wearOfAll_0 : decode cX3_wearOfAll 0 = .ok (.iconst 0, 1) := by decide +kernel
theorem dX3_wearOfAll_1 : decode cX3_wearOfAll 1 = .ok (.istore_n 1, 1) := by decide +kernel
theorem dX3_wearOfAll_2 : decode cX3_wearOfAll 2 = .ok (.iconst 0, 1) := by decide +kernel
theorem dX3_wearOfAll_3 : decode cX3_wearOfAll 3 = .ok (.istore_n 2, 1) := by decide +kernel
theorem dX3_wearOfAll_4 : decode cX3_wearOfAll 4 = .ok (.iload_n 2, 1) := by decide +kernel
theorem dX3_wearOfAll_5 : decode cX3_wearOfAll 5 = .ok (.bipush 25, 2) := by decide +kernel
theorem dX3_wearOfAll_7 : decode cX3_wearOfAll 7 = .ok (.if_icmp .ge 18, 3) := by decide +kernel
theorem dX3_wearOfAll_10 : decode cX3_wearOfAll 10 = .ok (.iload_n 1, 1) := by decide +kernel
theorem dX3_wearOfAll_11 : decode cX3_wearOfAll 11 = .ok (.aload_n 0, 1) := by decide +kernel
theorem dX3_wearOfAll_12 : decode cX3_wearOfAll 12 = .ok (.getfield 9, 3) := by decide +kernel
theorem dX3_wearOfAll_15 : decode cX3_wearOfAll 15 = .ok (.iload_n 2, 1) := by decide +kernel
theorem dX3_wearOfAll_16 : decode cX3_wearOfAll 16 = .ok (.iaload, 1) := by decide +kernel
theorem dX3_wearOfAll_17 : decode cX3_wearOfAll 17 = .ok (.iadd, 1) := by decide +kernel
theorem dX3_wearOfAll_18 : decode cX3_wearOfAll 18 = .ok (.istore_n 1, 1) := by decide +kernel
theorem dX3_wearOfAll_19 : decode cX3_wearOfAll 19 = .ok (.iinc 2 1, 3) := by decide +kernel
theorem dX3_wearOfAll_22 : decode cX3_wearOfAll 22 = .ok (.goto (-18), 3) := by decide +kernel
theorem dX3_wearOfAll_25 : decode cX3_wearOfAll 25 = .ok (.iload_n 1, 1) := by decide +kernel
theorem dX3_wearOfAll_26 : decode cX3_wearOfAll 26 = .ok (.ireturn, 1) := by decide +kernel
theorem dX3_beating_0 : decode cX3_beating 0 = .ok (.aload_n 0, 1) := by decide +kernel
theorem dX3_beating_1 : decode cX3_beating 1 = .ok (.getfield 38, 3) := by decide +kernel
theorem dX3_beating_4 : decode cX3_beating 4 = .ok (.getfield 55, 3) := by decide +kernel
theorem dX3_beating_7 : decode cX3_beating 7 = .ok (.ifCond .ne 6, 3) := by decide +kernel
theorem dX3_beating_10 : decode cX3_beating 10 = .ok (.bipush (-5), 2) := by decide +kernel
theorem dX3_beating_12 : decode cX3_beating 12 = .ok (.ireturn, 1) := by decide +kernel
theorem dX3_beating_13 : decode cX3_beating 13 = .ok (.iconst 0, 1) := by decide +kernel
theorem dX3_beating_14 : decode cX3_beating 14 = .ok (.istore_n 1, 1) := by decide +kernel
theorem dX3_beating_15 : decode cX3_beating 15 = .ok (.iconst 0, 1) := by decide +kernel
theorem dX3_beating_16 : decode cX3_beating 16 = .ok (.istore_n 2, 1) := by decide +kernel
theorem dX3_beating_17 : decode cX3_beating 17 = .ok (.iload_n 2, 1) := by decide +kernel
theorem dX3_beating_18 : decode cX3_beating 18 = .ok (.bipush 25, 2) := by decide +kernel
theorem dX3_beating_20 : decode cX3_beating 20 = .ok (.if_icmp .ge 20, 3) := by decide +kernel
theorem dX3_beating_23 : decode cX3_beating 23 = .ok (.iload_n 1, 1) := by decide +kernel
theorem dX3_beating_24 : decode cX3_beating 24 = .ok (.aload_n 0, 1) := by decide +kernel
theorem dX3_beating_25 : decode cX3_beating 25 = .ok (.getfield 9, 3) := by decide +kernel
theorem dX3_beating_28 : decode cX3_beating 28 = .ok (.iload_n 2, 1) := by decide +kernel
theorem dX3_beating_29 : decode cX3_beating 29 = .ok (.iaload, 1) := by decide +kernel
theorem dX3_beating_30 : decode cX3_beating 30 = .ok (.invokestatic 64, 3) := by decide +kernel
theorem dX3_beating_33 : decode cX3_beating 33 = .ok (.istore_n 1, 1) := by decide +kernel
theorem dX3_beating_34 : decode cX3_beating 34 = .ok (.iinc 2 1, 3) := by decide +kernel
theorem dX3_beating_37 : decode cX3_beating 37 = .ok (.goto (-20), 3) := by decide +kernel
theorem dX3_beating_40 : decode cX3_beating 40 = .ok (.iconst 0, 1) := by decide +kernel
theorem dX3_beating_41 : decode cX3_beating 41 = .ok (.iload_n 1, 1) := by decide +kernel
theorem dX3_beating_42 : decode cX3_beating 42 = .ok (.aload_n 0, 1) := by decide +kernel
theorem dX3_beating_43 : decode cX3_beating 43 = .ok (.getfield 38, 3) := by decide +kernel
theorem dX3_beating_46 : decode cX3_beating 46 = .ok (.getfield 55, 3) := by decide +kernel
theorem dX3_beating_49 : decode cX3_beating 49 = .ok (.isub, 1) := by decide +kernel
theorem dX3_beating_50 : decode cX3_beating 50 = .ok (.iconst 1, 1) := by decide +kernel
theorem dX3_beating_51 : decode cX3_beating 51 = .ok (.iadd, 1) := by decide +kernel
theorem dX3_beating_52 : decode cX3_beating 52 = .ok (.invokestatic 64, 3) := by decide +kernel
theorem dX3_beating_55 : decode cX3_beating 55 = .ok (.ireturn, 1) := by decide +kernel
theorem dX3_tread_0 : decode cX3_tread 0 = .ok (.aload_n 0, 1) := by decide +kernel
theorem dX3_tread_1 : decode cX3_tread 1 = .ok (.getfield 9, 3) := by decide +kernel
theorem dX3_tread_4 : decode cX3_tread 4 = .ok (.iload_n 1, 1) := by decide +kernel
theorem dX3_tread_5 : decode cX3_tread 5 = .ok (.bipush 99, 2) := by decide +kernel
theorem dX3_tread_7 : decode cX3_tread 7 = .ok (.aload_n 0, 1) := by decide +kernel
theorem dX3_tread_8 : decode cX3_tread 8 = .ok (.getfield 9, 3) := by decide +kernel
theorem dX3_tread_11 : decode cX3_tread 11 = .ok (.iload_n 1, 1) := by decide +kernel
theorem dX3_tread_12 : decode cX3_tread 12 = .ok (.iaload, 1) := by decide +kernel
theorem dX3_tread_13 : decode cX3_tread 13 = .ok (.iload_n 2, 1) := by decide +kernel
theorem dX3_tread_14 : decode cX3_tread 14 = .ok (.iadd, 1) := by decide +kernel
theorem dX3_tread_15 : decode cX3_tread 15 = .ok (.invokestatic 70, 3) := by decide +kernel
theorem dX3_tread_18 : decode cX3_tread 18 = .ok (.iastore, 1) := by decide +kernel
theorem dX3_tread_19 : decode cX3_tread 19 = .ok (.return_, 1) := by decide +kernel
theorem dX3_pullOn_0 : decode cX3_pullOn 0 = .ok (.aload_n 0, 1) := by decide +kernel
theorem dX3_pullOn_1 : decode cX3_pullOn 1 = .ok (.getfield 31, 3) := by decide +kernel
theorem dX3_pullOn_4 : decode cX3_pullOn 4 = .ok (.iconst 0, 1) := by decide +kernel
theorem dX3_pullOn_5 : decode cX3_pullOn 5 = .ok (.iload_n 1, 1) := by decide +kernel
theorem dX3_pullOn_6 : decode cX3_pullOn 6 = .ok (.iastore, 1) := by decide +kernel
theorem dX3_pullOn_7 : decode cX3_pullOn 7 = .ok (.aload_n 0, 1) := by decide +kernel
theorem dX3_pullOn_8 : decode cX3_pullOn 8 = .ok (.getfield 31, 3) := by decide +kernel
theorem dX3_pullOn_11 : decode cX3_pullOn 11 = .ok (.iconst 1, 1) := by decide +kernel
theorem dX3_pullOn_12 : decode cX3_pullOn 12 = .ok (.aload_n 0, 1) := by decide +kernel
theorem dX3_pullOn_13 : decode cX3_pullOn 13 = .ok (.getfield 15, 3) := by decide +kernel
theorem dX3_pullOn_16 : decode cX3_pullOn 16 = .ok (.iload_n 1, 1) := by decide +kernel
theorem dX3_pullOn_17 : decode cX3_pullOn 17 = .ok (.iaload, 1) := by decide +kernel
theorem dX3_pullOn_18 : decode cX3_pullOn 18 = .ok (.iastore, 1) := by decide +kernel
theorem dX3_pullOn_19 : decode cX3_pullOn 19 = .ok (.aload_n 0, 1) := by decide +kernel
theorem dX3_pullOn_20 : decode cX3_pullOn 20 = .ok (.getfield 31, 3) := by decide +kernel
theorem dX3_pullOn_23 : decode cX3_pullOn 23 = .ok (.iconst 2, 1) := by decide +kernel
theorem dX3_pullOn_24 : decode cX3_pullOn 24 = .ok (.aload_n 0, 1) := by decide +kernel
theorem dX3_pullOn_25 : decode cX3_pullOn 25 = .ok (.getfield 18, 3) := by decide +kernel
theorem dX3_pullOn_28 : decode cX3_pullOn 28 = .ok (.iload_n 1, 1) := by decide +kernel
theorem dX3_pullOn_29 : decode cX3_pullOn 29 = .ok (.iaload, 1) := by decide +kernel
theorem dX3_pullOn_30 : decode cX3_pullOn 30 = .ok (.iastore, 1) := by decide +kernel
theorem dX3_pullOn_31 : decode cX3_pullOn 31 = .ok (.aload_n 0, 1) := by decide +kernel
theorem dX3_pullOn_32 : decode cX3_pullOn 32 = .ok (.getfield 31, 3) := by decide +kernel
theorem dX3_pullOn_35 : decode cX3_pullOn 35 = .ok (.iconst 3, 1) := by decide +kernel
theorem dX3_pullOn_36 : decode cX3_pullOn 36 = .ok (.iload_n 2, 1) := by decide +kernel
theorem dX3_pullOn_37 : decode cX3_pullOn 37 = .ok (.iastore, 1) := by decide +kernel
theorem dX3_pullOn_38 : decode cX3_pullOn 38 = .ok (.aload_n 0, 1) := by decide +kernel
theorem dX3_pullOn_39 : decode cX3_pullOn 39 = .ok (.getfield 31, 3) := by decide +kernel
theorem dX3_pullOn_42 : decode cX3_pullOn 42 = .ok (.iconst 4, 1) := by decide +kernel
theorem dX3_pullOn_43 : decode cX3_pullOn 43 = .ok (.aload_n 0, 1) := by decide +kernel
theorem dX3_pullOn_44 : decode cX3_pullOn 44 = .ok (.getfield 9, 3) := by decide +kernel
theorem dX3_pullOn_47 : decode cX3_pullOn 47 = .ok (.iload_n 2, 1) := by decide +kernel
theorem dX3_pullOn_48 : decode cX3_pullOn 48 = .ok (.iaload, 1) := by decide +kernel
theorem dX3_pullOn_49 : decode cX3_pullOn 49 = .ok (.bipush 10, 2) := by decide +kernel
theorem dX3_pullOn_51 : decode cX3_pullOn 51 = .ok (.idiv, 1) := by decide +kernel
theorem dX3_pullOn_52 : decode cX3_pullOn 52 = .ok (.iastore, 1) := by decide +kernel
theorem dX3_pullOn_53 : decode cX3_pullOn 53 = .ok (.aload_n 0, 1) := by decide +kernel
theorem dX3_pullOn_54 : decode cX3_pullOn 54 = .ok (.getfield 31, 3) := by decide +kernel
theorem dX3_pullOn_57 : decode cX3_pullOn 57 = .ok (.iconst 5, 1) := by decide +kernel
theorem dX3_pullOn_58 : decode cX3_pullOn 58 = .ok (.aload_n 0, 1) := by decide +kernel
theorem dX3_pullOn_59 : decode cX3_pullOn 59 = .ok (.getfield 42, 3) := by decide +kernel
theorem dX3_pullOn_62 : decode cX3_pullOn 62 = .ok (.bipush 10, 2) := by decide +kernel
theorem dX3_pullOn_64 : decode cX3_pullOn 64 = .ok (.irem, 1) := by decide +kernel
theorem dX3_pullOn_65 : decode cX3_pullOn 65 = .ok (.iastore, 1) := by decide +kernel
theorem dX3_pullOn_66 : decode cX3_pullOn 66 = .ok (.aload_n 0, 1) := by decide +kernel
theorem dX3_pullOn_67 : decode cX3_pullOn 67 = .ok (.iload_n 1, 1) := by decide +kernel
theorem dX3_pullOn_68 : decode cX3_pullOn 68 = .ok (.invokevirtual 73, 3) := by decide +kernel
theorem dX3_pullOn_71 : decode cX3_pullOn 71 = .ok (.aload_n 0, 1) := by decide +kernel
theorem dX3_pullOn_72 : decode cX3_pullOn 72 = .ok (.getfield 9, 3) := by decide +kernel
theorem dX3_pullOn_75 : decode cX3_pullOn 75 = .ok (.iload_n 2, 1) := by decide +kernel
theorem dX3_pullOn_76 : decode cX3_pullOn 76 = .ok (.iaload, 1) := by decide +kernel
theorem dX3_pullOn_77 : decode cX3_pullOn 77 = .ok (.aload_n 0, 1) := by decide +kernel
theorem dX3_pullOn_78 : decode cX3_pullOn 78 = .ok (.getfield 38, 3) := by decide +kernel
theorem dX3_pullOn_81 : decode cX3_pullOn 81 = .ok (.aload_n 0, 1) := by decide +kernel
theorem dX3_pullOn_82 : decode cX3_pullOn 82 = .ok (.getfield 31, 3) := by decide +kernel
theorem dX3_pullOn_85 : decode cX3_pullOn 85 = .ok (.invokevirtual 77, 3) := by decide +kernel
theorem dX3_pullOn_88 : decode cX3_pullOn 88 = .ok (.iadd, 1) := by decide +kernel
theorem dX3_pullOn_89 : decode cX3_pullOn 89 = .ok (.aload_n 0, 1) := by decide +kernel
theorem dX3_pullOn_90 : decode cX3_pullOn 90 = .ok (.iload_n 1, 1) := by decide +kernel
theorem dX3_pullOn_91 : decode cX3_pullOn 91 = .ok (.iload_n 2, 1) := by decide +kernel
theorem dX3_pullOn_92 : decode cX3_pullOn 92 = .ok (.invokevirtual 81, 3) := by decide +kernel
theorem dX3_pullOn_95 : decode cX3_pullOn 95 = .ok (.ireturn, 1) := by decide +kernel
theorem dX3_sends_0 : decode cX3_sends 0 = .ok (.aload_n 0, 1) := by decide +kernel
theorem dX3_sends_1 : decode cX3_sends 1 = .ok (.getfield 21, 3) := by decide +kernel
theorem dX3_sends_4 : decode cX3_sends 4 = .ok (.iload_n 1, 1) := by decide +kernel
theorem dX3_sends_5 : decode cX3_sends 5 = .ok (.iaload, 1) := by decide +kernel
theorem dX3_sends_6 : decode cX3_sends 6 = .ok (.istore_n 2, 1) := by decide +kernel
theorem dX3_sends_7 : decode cX3_sends 7 = .ok (.iconst 0, 1) := by decide +kernel
theorem dX3_sends_8 : decode cX3_sends 8 = .ok (.istore_n 3, 1) := by decide +kernel
theorem dX3_sends_9 : decode cX3_sends 9 = .ok (.iconst 1, 1) := by decide +kernel
theorem dX3_sends_10 : decode cX3_sends 10 = .ok (.istore 4, 2) := by decide +kernel
theorem dX3_sends_12 : decode cX3_sends 12 = .ok (.iconst 0, 1) := by decide +kernel
theorem dX3_sends_13 : decode cX3_sends 13 = .ok (.istore 5, 2) := by decide +kernel
theorem dX3_sends_15 : decode cX3_sends 15 = .ok (.iload 5, 2) := by decide +kernel
theorem dX3_sends_17 : decode cX3_sends 17 = .ok (.iconst 4, 1) := by decide +kernel
theorem dX3_sends_18 : decode cX3_sends 18 = .ok (.if_icmp .ge 69, 3) := by decide +kernel
theorem dX3_sends_21 : decode cX3_sends 21 = .ok (.aload_n 0, 1) := by decide +kernel
theorem dX3_sends_22 : decode cX3_sends 22 = .ok (.getfield 21, 3) := by decide +kernel
theorem dX3_sends_25 : decode cX3_sends 25 = .ok (.iload_n 1, 1) := by decide +kernel
theorem dX3_sends_26 : decode cX3_sends 26 = .ok (.iaload, 1) := by decide +kernel
theorem dX3_sends_27 : decode cX3_sends 27 = .ok (.iload 5, 2) := by decide +kernel
theorem dX3_sends_29 : decode cX3_sends 29 = .ok (.invokestatic 87, 3) := by decide +kernel
theorem dX3_sends_32 : decode cX3_sends 32 = .ok (.istore 6, 2) := by decide +kernel
theorem dX3_sends_34 : decode cX3_sends 34 = .ok (.iload 6, 2) := by decide +kernel
theorem dX3_sends_36 : decode cX3_sends 36 = .ok (.iconst (-1), 1) := by decide +kernel
theorem dX3_sends_37 : decode cX3_sends 37 = .ok (.if_icmp .eq 44, 3) := by decide +kernel
theorem dX3_sends_40 : decode cX3_sends 40 = .ok (.aload_n 0, 1) := by decide +kernel
theorem dX3_sends_41 : decode cX3_sends 41 = .ok (.iload 6, 2) := by decide +kernel
theorem dX3_sends_43 : decode cX3_sends 43 = .ok (.invokevirtual 60, 3) := by decide +kernel
theorem dX3_sends_46 : decode cX3_sends 46 = .ok (.ifCond .eq 6, 3) := by decide +kernel
theorem dX3_sends_49 : decode cX3_sends 49 = .ok (.goto 32, 3) := by decide +kernel
theorem dX3_sends_52 : decode cX3_sends 52 = .ok (.aload_n 0, 1) := by decide +kernel
theorem dX3_sends_53 : decode cX3_sends 53 = .ok (.iload_n 1, 1) := by decide +kernel
theorem dX3_sends_54 : decode cX3_sends 54 = .ok (.iload 6, 2) := by decide +kernel
theorem dX3_sends_56 : decode cX3_sends 56 = .ok (.invokevirtual 90, 3) := by decide +kernel
theorem dX3_sends_59 : decode cX3_sends 59 = .ok (.istore 7, 2) := by decide +kernel
theorem dX3_sends_61 : decode cX3_sends 61 = .ok (.iload 4, 2) := by decide +kernel
theorem dX3_sends_63 : decode cX3_sends 63 = .ok (.ifCond .ne 9, 3) := by decide +kernel
theorem dX3_sends_66 : decode cX3_sends 66 = .ok (.iload 7, 2) := by decide +kernel
theorem dX3_sends_68 : decode cX3_sends 68 = .ok (.iload_n 3, 1) := by decide +kernel
theorem dX3_sends_69 : decode cX3_sends 69 = .ok (.if_icmp .le 12, 3) := by decide +kernel
theorem dX3_sends_72 : decode cX3_sends 72 = .ok (.iconst 0, 1) := by decide +kernel
theorem dX3_sends_73 : decode cX3_sends 73 = .ok (.istore 4, 2) := by decide +kernel
theorem dX3_sends_75 : decode cX3_sends 75 = .ok (.iload 6, 2) := by decide +kernel
theorem dX3_sends_77 : decode cX3_sends 77 = .ok (.istore_n 2, 1) := by decide +kernel
theorem dX3_sends_78 : decode cX3_sends 78 = .ok (.iload 7, 2) := by decide +kernel
theorem dX3_sends_80 : decode cX3_sends 80 = .ok (.istore_n 3, 1) := by decide +kernel
theorem dX3_sends_81 : decode cX3_sends 81 = .ok (.iinc 5 1, 3) := by decide +kernel
theorem dX3_sends_84 : decode cX3_sends 84 = .ok (.goto (-69), 3) := by decide +kernel
theorem dX3_sends_87 : decode cX3_sends 87 = .ok (.iload_n 2, 1) := by decide +kernel
theorem dX3_sends_88 : decode cX3_sends 88 = .ok (.ireturn, 1) := by decide +kernel
theorem dX3_goHour_0 : decode cX3_goHour 0 = .ok (.iconst 0, 1) := by decide +kernel
theorem dX3_goHour_1 : decode cX3_goHour 1 = .ok (.istore_n 1, 1) := by decide +kernel
theorem dX3_goHour_2 : decode cX3_goHour 2 = .ok (.iload_n 1, 1) := by decide +kernel
theorem dX3_goHour_3 : decode cX3_goHour 3 = .ok (.aload_n 0, 1) := by decide +kernel
theorem dX3_goHour_4 : decode cX3_goHour 4 = .ok (.getfield 46, 3) := by decide +kernel
theorem dX3_goHour_7 : decode cX3_goHour 7 = .ok (.if_icmp .ge 47, 3) := by decide +kernel
theorem dX3_goHour_10 : decode cX3_goHour 10 = .ok (.aload_n 0, 1) := by decide +kernel
theorem dX3_goHour_11 : decode cX3_goHour 11 = .ok (.getfield 24, 3) := by decide +kernel
theorem dX3_goHour_14 : decode cX3_goHour 14 = .ok (.iload_n 1, 1) := by decide +kernel
theorem dX3_goHour_15 : decode cX3_goHour 15 = .ok (.baload, 1) := by decide +kernel
theorem dX3_goHour_16 : decode cX3_goHour 16 = .ok (.ifCond .ne 32, 3) := by decide +kernel
theorem dX3_goHour_19 : decode cX3_goHour 19 = .ok (.aload_n 0, 1) := by decide +kernel
theorem dX3_goHour_20 : decode cX3_goHour 20 = .ok (.getfield 21, 3) := by decide +kernel
theorem dX3_goHour_23 : decode cX3_goHour 23 = .ok (.iload_n 1, 1) := by decide +kernel
theorem dX3_goHour_24 : decode cX3_goHour 24 = .ok (.aload_n 0, 1) := by decide +kernel
theorem dX3_goHour_25 : decode cX3_goHour 25 = .ok (.iload_n 1, 1) := by decide +kernel
theorem dX3_goHour_26 : decode cX3_goHour 26 = .ok (.invokevirtual 93, 3) := by decide +kernel
theorem dX3_goHour_29 : decode cX3_goHour 29 = .ok (.iastore, 1) := by decide +kernel
theorem dX3_goHour_30 : decode cX3_goHour 30 = .ok (.aload_n 0, 1) := by decide +kernel
theorem dX3_goHour_31 : decode cX3_goHour 31 = .ok (.aload_n 0, 1) := by decide +kernel
theorem dX3_goHour_32 : decode cX3_goHour 32 = .ok (.getfield 21, 3) := by decide +kernel
theorem dX3_goHour_35 : decode cX3_goHour 35 = .ok (.iload_n 1, 1) := by decide +kernel
theorem dX3_goHour_36 : decode cX3_goHour 36 = .ok (.iaload, 1) := by decide +kernel
theorem dX3_goHour_37 : decode cX3_goHour 37 = .ok (.aload_n 0, 1) := by decide +kernel
theorem dX3_goHour_38 : decode cX3_goHour 38 = .ok (.iload_n 1, 1) := by decide +kernel
theorem dX3_goHour_39 : decode cX3_goHour 39 = .ok (.invokevirtual 73, 3) := by decide +kernel
theorem dX3_goHour_42 : decode cX3_goHour 42 = .ok (.invokevirtual 97, 3) := by decide +kernel
theorem dX3_goHour_45 : decode cX3_goHour 45 = .ok (.invokevirtual 101, 3) := by decide +kernel
theorem dX3_goHour_48 : decode cX3_goHour 48 = .ok (.iinc 1 1, 3) := by decide +kernel
theorem dX3_goHour_51 : decode cX3_goHour 51 = .ok (.goto (-49), 3) := by decide +kernel
theorem dX3_goHour_54 : decode cX3_goHour 54 = .ok (.aload_n 0, 1) := by decide +kernel
theorem dX3_goHour_55 : decode cX3_goHour 55 = .ok (.dup, 1) := by decide +kernel
theorem dX3_goHour_56 : decode cX3_goHour 56 = .ok (.getfield 42, 3) := by decide +kernel
theorem dX3_goHour_59 : decode cX3_goHour 59 = .ok (.iconst 1, 1) := by decide +kernel
theorem dX3_goHour_60 : decode cX3_goHour 60 = .ok (.iadd, 1) := by decide +kernel
theorem dX3_goHour_61 : decode cX3_goHour 61 = .ok (.putfield 42, 3) := by decide +kernel
theorem dX3_goHour_64 : decode cX3_goHour 64 = .ok (.aload_n 0, 1) := by decide +kernel
theorem dX3_goHour_65 : decode cX3_goHour 65 = .ok (.getfield 42, 3) := by decide +kernel
theorem dX3_goHour_68 : decode cX3_goHour 68 = .ok (.bipush 10, 2) := by decide +kernel
theorem dX3_goHour_70 : decode cX3_goHour 70 = .ok (.irem, 1) := by decide +kernel
theorem dX3_goHour_71 : decode cX3_goHour 71 = .ok (.ifCond .ne 35, 3) := by decide +kernel
theorem dX3_goHour_74 : decode cX3_goHour 74 = .ok (.iconst 0, 1) := by decide +kernel
theorem dX3_goHour_75 : decode cX3_goHour 75 = .ok (.istore_n 1, 1) := by decide +kernel
theorem dX3_goHour_76 : decode cX3_goHour 76 = .ok (.iload_n 1, 1) := by decide +kernel
theorem dX3_goHour_77 : decode cX3_goHour 77 = .ok (.bipush 25, 2) := by decide +kernel
theorem dX3_goHour_79 : decode cX3_goHour 79 = .ok (.if_icmp .ge 27, 3) := by decide +kernel
theorem dX3_goHour_82 : decode cX3_goHour 82 = .ok (.aload_n 0, 1) := by decide +kernel
theorem dX3_goHour_83 : decode cX3_goHour 83 = .ok (.getfield 9, 3) := by decide +kernel
theorem dX3_goHour_86 : decode cX3_goHour 86 = .ok (.iload_n 1, 1) := by decide +kernel
theorem dX3_goHour_87 : decode cX3_goHour 87 = .ok (.iconst 0, 1) := by decide +kernel
theorem dX3_goHour_88 : decode cX3_goHour 88 = .ok (.aload_n 0, 1) := by decide +kernel
theorem dX3_goHour_89 : decode cX3_goHour 89 = .ok (.getfield 9, 3) := by decide +kernel
theorem dX3_goHour_92 : decode cX3_goHour 92 = .ok (.iload_n 1, 1) := by decide +kernel
theorem dX3_goHour_93 : decode cX3_goHour 93 = .ok (.iaload, 1) := by decide +kernel
theorem dX3_goHour_94 : decode cX3_goHour 94 = .ok (.iconst 1, 1) := by decide +kernel
theorem dX3_goHour_95 : decode cX3_goHour 95 = .ok (.isub, 1) := by decide +kernel
theorem dX3_goHour_96 : decode cX3_goHour 96 = .ok (.invokestatic 64, 3) := by decide +kernel
theorem dX3_goHour_99 : decode cX3_goHour 99 = .ok (.iastore, 1) := by decide +kernel
theorem dX3_goHour_100 : decode cX3_goHour 100 = .ok (.iinc 1 1, 3) := by decide +kernel
theorem dX3_goHour_103 : decode cX3_goHour 103 = .ok (.goto (-27), 3) := by decide +kernel
theorem dX3_goHour_106 : decode cX3_goHour 106 = .ok (.return_, 1) := by decide +kernel
theorem dX3_goHours_0 : decode cX3_goHours 0 = .ok (.iconst 0, 1) := by decide +kernel
theorem dX3_goHours_1 : decode cX3_goHours 1 = .ok (.istore_n 2, 1) := by decide +kernel
theorem dX3_goHours_2 : decode cX3_goHours 2 = .ok (.iload_n 2, 1) := by decide +kernel
theorem dX3_goHours_3 : decode cX3_goHours 3 = .ok (.iload_n 1, 1) := by decide +kernel
theorem dX3_goHours_4 : decode cX3_goHours 4 = .ok (.if_icmp .ge 13, 3) := by decide +kernel
theorem dX3_goHours_7 : decode cX3_goHours 7 = .ok (.aload_n 0, 1) := by decide +kernel
theorem dX3_goHours_8 : decode cX3_goHours 8 = .ok (.invokevirtual 104, 3) := by decide +kernel
theorem dX3_goHours_11 : decode cX3_goHours 11 = .ok (.iinc 2 1, 3) := by decide +kernel
theorem dX3_goHours_14 : decode cX3_goHours 14 = .ok (.goto (-12), 3) := by decide +kernel
theorem dX3_goHours_17 : decode cX3_goHours 17 = .ok (.return_, 1) := by decide +kernel
theorem dX3_hoursTo_0 : decode cX3_hoursTo 0 = .ok (.iconst 0, 1) := by decide +kernel
theorem dX3_hoursTo_1 : decode cX3_hoursTo 1 = .ok (.istore_n 3, 1) := by decide +kernel
theorem dX3_hoursTo_2 : decode cX3_hoursTo 2 = .ok (.iload_n 3, 1) := by decide +kernel
theorem dX3_hoursTo_3 : decode cX3_hoursTo 3 = .ok (.bipush 40, 2) := by decide +kernel
theorem dX3_hoursTo_5 : decode cX3_hoursTo 5 = .ok (.if_icmp .gt 25, 3) := by decide +kernel
theorem dX3_hoursTo_8 : decode cX3_hoursTo 8 = .ok (.aload_n 0, 1) := by decide +kernel
theorem dX3_hoursTo_9 : decode cX3_hoursTo 9 = .ok (.getfield 21, 3) := by decide +kernel
theorem dX3_hoursTo_12 : decode cX3_hoursTo 12 = .ok (.iload_n 1, 1) := by decide +kernel
theorem dX3_hoursTo_13 : decode cX3_hoursTo 13 = .ok (.iaload, 1) := by decide +kernel
theorem dX3_hoursTo_14 : decode cX3_hoursTo 14 = .ok (.iload_n 2, 1) := by decide +kernel
theorem dX3_hoursTo_15 : decode cX3_hoursTo 15 = .ok (.if_icmp .ne 5, 3) := by decide +kernel
theorem dX3_hoursTo_18 : decode cX3_hoursTo 18 = .ok (.iload_n 3, 1) := by decide +kernel
theorem dX3_hoursTo_19 : decode cX3_hoursTo 19 = .ok (.ireturn, 1) := by decide +kernel
theorem dX3_hoursTo_20 : decode cX3_hoursTo 20 = .ok (.aload_n 0, 1) := by decide +kernel
theorem dX3_hoursTo_21 : decode cX3_hoursTo 21 = .ok (.invokevirtual 104, 3) := by decide +kernel
theorem dX3_hoursTo_24 : decode cX3_hoursTo 24 = .ok (.iinc 3 1, 3) := by decide +kernel
theorem dX3_hoursTo_27 : decode cX3_hoursTo 27 = .ok (.goto (-25), 3) := by decide +kernel
theorem dX3_hoursTo_30 : decode cX3_hoursTo 30 = .ok (.bipush (-5), 2) := by decide +kernel
theorem dX3_hoursTo_32 : decode cX3_hoursTo 32 = .ok (.ireturn, 1) := by decide +kernel
theorem dX3_stepsTo_0 : decode cX3_stepsTo 0 = .ok (.iconst 0, 1) := by decide +kernel
theorem dX3_stepsTo_1 : decode cX3_stepsTo 1 = .ok (.istore_n 3, 1) := by decide +kernel
theorem dX3_stepsTo_2 : decode cX3_stepsTo 2 = .ok (.iconst 0, 1) := by decide +kernel
theorem dX3_stepsTo_3 : decode cX3_stepsTo 3 = .ok (.istore 4, 2) := by decide +kernel
theorem dX3_stepsTo_5 : decode cX3_stepsTo 5 = .ok (.iload 4, 2) := by decide +kernel
theorem dX3_stepsTo_7 : decode cX3_stepsTo 7 = .ok (.bipush 25, 2) := by decide +kernel
theorem dX3_stepsTo_9 : decode cX3_stepsTo 9 = .ok (.if_icmp .ge 25, 3) := by decide +kernel
theorem dX3_stepsTo_12 : decode cX3_stepsTo 12 = .ok (.aload_n 0, 1) := by decide +kernel
theorem dX3_stepsTo_13 : decode cX3_stepsTo 13 = .ok (.iload 4, 2) := by decide +kernel
theorem dX3_stepsTo_15 : decode cX3_stepsTo 15 = .ok (.invokevirtual 60, 3) := by decide +kernel
theorem dX3_stepsTo_18 : decode cX3_stepsTo 18 = .ok (.ifCond .ne 10, 3) := by decide +kernel
theorem dX3_stepsTo_21 : decode cX3_stepsTo 21 = .ok (.iload_n 3, 1) := by decide +kernel
theorem dX3_stepsTo_22 : decode cX3_stepsTo 22 = .ok (.iconst 1, 1) := by decide +kernel
theorem dX3_stepsTo_23 : decode cX3_stepsTo 23 = .ok (.iload 4, 2) := by decide +kernel
theorem dX3_stepsTo_25 : decode cX3_stepsTo 25 = .ok (.ishl, 1) := by decide +kernel
theorem dX3_stepsTo_26 : decode cX3_stepsTo 26 = .ok (.ior, 1) := by decide +kernel
theorem dX3_stepsTo_27 : decode cX3_stepsTo 27 = .ok (.istore_n 3, 1) := by decide +kernel
theorem dX3_stepsTo_28 : decode cX3_stepsTo 28 = .ok (.iinc 4 1, 3) := by decide +kernel
theorem dX3_stepsTo_31 : decode cX3_stepsTo 31 = .ok (.goto (-26), 3) := by decide +kernel
theorem dX3_stepsTo_34 : decode cX3_stepsTo 34 = .ok (.iconst 1, 1) := by decide +kernel
theorem dX3_stepsTo_35 : decode cX3_stepsTo 35 = .ok (.aload_n 0, 1) := by decide +kernel
theorem dX3_stepsTo_36 : decode cX3_stepsTo 36 = .ok (.getfield 21, 3) := by decide +kernel
theorem dX3_stepsTo_39 : decode cX3_stepsTo 39 = .ok (.iload_n 1, 1) := by decide +kernel
theorem dX3_stepsTo_40 : decode cX3_stepsTo 40 = .ok (.iaload, 1) := by decide +kernel
theorem dX3_stepsTo_41 : decode cX3_stepsTo 41 = .ok (.ishl, 1) := by decide +kernel
theorem dX3_stepsTo_42 : decode cX3_stepsTo 42 = .ok (.istore 4, 2) := by decide +kernel
theorem dX3_stepsTo_44 : decode cX3_stepsTo 44 = .ok (.iconst 0, 1) := by decide +kernel
theorem dX3_stepsTo_45 : decode cX3_stepsTo 45 = .ok (.istore 5, 2) := by decide +kernel
theorem dX3_stepsTo_47 : decode cX3_stepsTo 47 = .ok (.iload 5, 2) := by decide +kernel
theorem dX3_stepsTo_49 : decode cX3_stepsTo 49 = .ok (.bipush 25, 2) := by decide +kernel
theorem dX3_stepsTo_51 : decode cX3_stepsTo 51 = .ok (.if_icmp .ge 62, 3) := by decide +kernel
theorem dX3_stepsTo_54 : decode cX3_stepsTo 54 = .ok (.iload 4, 2) := by decide +kernel
theorem dX3_stepsTo_56 : decode cX3_stepsTo 56 = .ok (.iload_n 2, 1) := by decide +kernel
theorem dX3_stepsTo_57 : decode cX3_stepsTo 57 = .ok (.ishr, 1) := by decide +kernel
theorem dX3_stepsTo_58 : decode cX3_stepsTo 58 = .ok (.iconst 1, 1) := by decide +kernel
theorem dX3_stepsTo_59 : decode cX3_stepsTo 59 = .ok (.iand, 1) := by decide +kernel
theorem dX3_stepsTo_60 : decode cX3_stepsTo 60 = .ok (.iconst 1, 1) := by decide +kernel
theorem dX3_stepsTo_61 : decode cX3_stepsTo 61 = .ok (.if_icmp .ne 6, 3) := by decide +kernel
theorem dX3_stepsTo_64 : decode cX3_stepsTo 64 = .ok (.iload 5, 2) := by decide +kernel
theorem dX3_stepsTo_66 : decode cX3_stepsTo 66 = .ok (.ireturn, 1) := by decide +kernel
theorem dX3_stepsTo_67 : decode cX3_stepsTo 67 = .ok (.iload 4, 2) := by decide +kernel
theorem dX3_stepsTo_69 : decode cX3_stepsTo 69 = .ok (.iconst 5, 1) := by decide +kernel
theorem dX3_stepsTo_70 : decode cX3_stepsTo 70 = .ok (.ishr, 1) := by decide +kernel
theorem dX3_stepsTo_71 : decode cX3_stepsTo 71 = .ok (.iload 4, 2) := by decide +kernel
theorem dX3_stepsTo_73 : decode cX3_stepsTo 73 = .ok (.iconst 5, 1) := by decide +kernel
theorem dX3_stepsTo_74 : decode cX3_stepsTo 74 = .ok (.ishl, 1) := by decide +kernel
theorem dX3_stepsTo_75 : decode cX3_stepsTo 75 = .ok (.ior, 1) := by decide +kernel
theorem dX3_stepsTo_76 : decode cX3_stepsTo 76 = .ok (.istore 6, 2) := by decide +kernel
theorem dX3_stepsTo_78 : decode cX3_stepsTo 78 = .ok (.iload 4, 2) := by decide +kernel
theorem dX3_stepsTo_80 : decode cX3_stepsTo 80 = .ok (.ldc 107, 2) := by decide +kernel
theorem dX3_stepsTo_82 : decode cX3_stepsTo 82 = .ok (.iand, 1) := by decide +kernel
theorem dX3_stepsTo_83 : decode cX3_stepsTo 83 = .ok (.iconst 1, 1) := by decide +kernel
theorem dX3_stepsTo_84 : decode cX3_stepsTo 84 = .ok (.ishr, 1) := by decide +kernel
theorem dX3_stepsTo_85 : decode cX3_stepsTo 85 = .ok (.iload 4, 2) := by decide +kernel
theorem dX3_stepsTo_87 : decode cX3_stepsTo 87 = .ok (.ldc 108, 2) := by decide +kernel
theorem dX3_stepsTo_89 : decode cX3_stepsTo 89 = .ok (.iand, 1) := by decide +kernel
theorem dX3_stepsTo_90 : decode cX3_stepsTo 90 = .ok (.iconst 1, 1) := by decide +kernel
theorem dX3_stepsTo_91 : decode cX3_stepsTo 91 = .ok (.ishl, 1) := by decide +kernel
theorem dX3_stepsTo_92 : decode cX3_stepsTo 92 = .ok (.ior, 1) := by decide +kernel
theorem dX3_stepsTo_93 : decode cX3_stepsTo 93 = .ok (.istore 7, 2) := by decide +kernel
theorem dX3_stepsTo_95 : decode cX3_stepsTo 95 = .ok (.iload 4, 2) := by decide +kernel
theorem dX3_stepsTo_97 : decode cX3_stepsTo 97 = .ok (.iload 6, 2) := by decide +kernel
theorem dX3_stepsTo_99 : decode cX3_stepsTo 99 = .ok (.iload 7, 2) := by decide +kernel
theorem dX3_stepsTo_101 : decode cX3_stepsTo 101 = .ok (.ior, 1) := by decide +kernel
theorem dX3_stepsTo_102 : decode cX3_stepsTo 102 = .ok (.iload_n 3, 1) := by decide +kernel
theorem dX3_stepsTo_103 : decode cX3_stepsTo 103 = .ok (.iand, 1) := by decide +kernel
theorem dX3_stepsTo_104 : decode cX3_stepsTo 104 = .ok (.ior, 1) := by decide +kernel
theorem dX3_stepsTo_105 : decode cX3_stepsTo 105 = .ok (.istore 4, 2) := by decide +kernel
theorem dX3_stepsTo_107 : decode cX3_stepsTo 107 = .ok (.iinc 5 1, 3) := by decide +kernel
theorem dX3_stepsTo_110 : decode cX3_stepsTo 110 = .ok (.goto (-63), 3) := by decide +kernel
theorem dX3_stepsTo_113 : decode cX3_stepsTo 113 = .ok (.bipush (-5), 2) := by decide +kernel
theorem dX3_stepsTo_115 : decode cX3_stepsTo 115 = .ok (.ireturn, 1) := by decide +kernel
theorem dX4_init_0 : decode cX4_init 0 = .ok (.aload_n 0, 1) := by decide +kernel
theorem dX4_init_1 : decode cX4_init 1 = .ok (.invokespecial 1, 3) := by decide +kernel
theorem dX4_init_4 : decode cX4_init 4 = .ok (.return_, 1) := by decide +kernel
theorem dX4_tread_0 : decode cX4_tread 0 = .ok (.bipush 6, 2) := by decide +kernel
theorem dX4_tread_2 : decode cX4_tread 2 = .ok (.ireturn, 1) := by decide +kernel
theorem dX4_pullBy_0 : decode cX4_pullBy 0 = .ok (.aload_n 2, 1) := by decide +kernel
theorem dX4_pullBy_1 : decode cX4_pullBy 1 = .ok (.getfield 7, 3) := by decide +kernel
theorem dX4_pullBy_4 : decode cX4_pullBy 4 = .ok (.iconst 2, 1) := by decide +kernel
theorem dX4_pullBy_5 : decode cX4_pullBy 5 = .ok (.irem, 1) := by decide +kernel
theorem dX4_pullBy_6 : decode cX4_pullBy 6 = .ok (.iconst 1, 1) := by decide +kernel
theorem dX4_pullBy_7 : decode cX4_pullBy 7 = .ok (.if_icmp .ne 9, 3) := by decide +kernel
theorem dX4_pullBy_10 : decode cX4_pullBy 10 = .ok (.iload_n 1, 1) := by decide +kernel
theorem dX4_pullBy_11 : decode cX4_pullBy 11 = .ok (.iconst 2, 1) := by decide +kernel
theorem dX4_pullBy_12 : decode cX4_pullBy 12 = .ok (.idiv, 1) := by decide +kernel
theorem dX4_pullBy_13 : decode cX4_pullBy 13 = .ok (.goto 4, 3) := by decide +kernel
theorem dX4_pullBy_16 : decode cX4_pullBy 16 = .ok (.iload_n 1, 1) := by decide +kernel
theorem dX4_pullBy_17 : decode cX4_pullBy 17 = .ok (.ireturn, 1) := by decide +kernel
theorem dX4_tells_0 : decode cX4_tells 0 = .ok (.aload_n 1, 1) := by decide +kernel
theorem dX4_tells_1 : decode cX4_tells 1 = .ok (.bipush 40, 2) := by decide +kernel
theorem dX4_tells_3 : decode cX4_tells 3 = .ok (.invokevirtual 13, 3) := by decide +kernel
theorem dX4_tells_6 : decode cX4_tells 6 = .ok (.aload_n 0, 1) := by decide +kernel
theorem dX4_tells_7 : decode cX4_tells 7 = .ok (.aload_n 1, 1) := by decide +kernel
theorem dX4_tells_8 : decode cX4_tells 8 = .ok (.iload_n 2, 1) := by decide +kernel
theorem dX4_tells_9 : decode cX4_tells 9 = .ok (.invokespecial 19, 3) := by decide +kernel
theorem dX4_tells_12 : decode cX4_tells 12 = .ok (.aload_n 0, 1) := by decide +kernel
theorem dX4_tells_13 : decode cX4_tells 13 = .ok (.aload_n 1, 1) := by decide +kernel
theorem dX4_tells_14 : decode cX4_tells 14 = .ok (.iconst 1, 1) := by decide +kernel
theorem dX4_tells_15 : decode cX4_tells 15 = .ok (.invokevirtual 23, 3) := by decide +kernel
theorem dX4_tells_18 : decode cX4_tells 18 = .ok (.iadd, 1) := by decide +kernel
theorem dX4_tells_19 : decode cX4_tells 19 = .ok (.ireturn, 1) := by decide +kernel
theorem dX5_init_0 : decode cX5_init 0 = .ok (.aload_n 0, 1) := by decide +kernel
theorem dX5_init_1 : decode cX5_init 1 = .ok (.invokespecial 3, 3) := by decide +kernel
theorem dX5_init_4 : decode cX5_init 4 = .ok (.aload_n 0, 1) := by decide +kernel
theorem dX5_init_5 : decode cX5_init 5 = .ok (.iload_n 1, 1) := by decide +kernel
theorem dX5_init_6 : decode cX5_init 6 = .ok (.putfield 9, 3) := by decide +kernel
theorem dX5_init_9 : decode cX5_init 9 = .ok (.aload_n 0, 1) := by decide +kernel
theorem dX5_init_10 : decode cX5_init 10 = .ok (.iload_n 1, 1) := by decide +kernel
theorem dX5_init_11 : decode cX5_init 11 = .ok (.iconst 3, 1) := by decide +kernel
theorem dX5_init_12 : decode cX5_init 12 = .ok (.imul, 1) := by decide +kernel
theorem dX5_init_13 : decode cX5_init 13 = .ok (.newarray .int, 2) := by decide +kernel
theorem dX5_init_15 : decode cX5_init 15 = .ok (.putfield 15, 3) := by decide +kernel
theorem dX5_init_18 : decode cX5_init 18 = .ok (.return_, 1) := by decide +kernel
theorem dX5_clear_0 : decode cX5_clear 0 = .ok (.aload_n 0, 1) := by decide +kernel
theorem dX5_clear_1 : decode cX5_clear 1 = .ok (.iconst 0, 1) := by decide +kernel
theorem dX5_clear_2 : decode cX5_clear 2 = .ok (.putfield 19, 3) := by decide +kernel
theorem dX5_clear_5 : decode cX5_clear 5 = .ok (.iconst 0, 1) := by decide +kernel
theorem dX5_clear_6 : decode cX5_clear 6 = .ok (.ireturn, 1) := by decide +kernel
theorem dX5_add_0 : decode cX5_add 0 = .ok (.aload_n 0, 1) := by decide +kernel
theorem dX5_add_1 : decode cX5_add 1 = .ok (.getfield 19, 3) := by decide +kernel
theorem dX5_add_4 : decode cX5_add 4 = .ok (.aload_n 0, 1) := by decide +kernel
theorem dX5_add_5 : decode cX5_add 5 = .ok (.getfield 9, 3) := by decide +kernel
theorem dX5_add_8 : decode cX5_add 8 = .ok (.if_icmp .lt 6, 3) := by decide +kernel
theorem dX5_add_11 : decode cX5_add 11 = .ok (.bipush (-4), 2) := by decide +kernel
theorem dX5_add_13 : decode cX5_add 13 = .ok (.ireturn, 1) := by decide +kernel
theorem dX5_add_14 : decode cX5_add 14 = .ok (.aload_n 0, 1) := by decide +kernel
theorem dX5_add_15 : decode cX5_add 15 = .ok (.getfield 15, 3) := by decide +kernel
theorem dX5_add_18 : decode cX5_add 18 = .ok (.aload_n 0, 1) := by decide +kernel
theorem dX5_add_19 : decode cX5_add 19 = .ok (.getfield 19, 3) := by decide +kernel
theorem dX5_add_22 : decode cX5_add 22 = .ok (.iconst 3, 1) := by decide +kernel
theorem dX5_add_23 : decode cX5_add 23 = .ok (.imul, 1) := by decide +kernel
theorem dX5_add_24 : decode cX5_add 24 = .ok (.iload_n 1, 1) := by decide +kernel
theorem dX5_add_25 : decode cX5_add 25 = .ok (.iastore, 1) := by decide +kernel
theorem dX5_add_26 : decode cX5_add 26 = .ok (.aload_n 0, 1) := by decide +kernel
theorem dX5_add_27 : decode cX5_add 27 = .ok (.getfield 15, 3) := by decide +kernel
theorem dX5_add_30 : decode cX5_add 30 = .ok (.aload_n 0, 1) := by decide +kernel
theorem dX5_add_31 : decode cX5_add 31 = .ok (.getfield 19, 3) := by decide +kernel
theorem dX5_add_34 : decode cX5_add 34 = .ok (.iconst 3, 1) := by decide +kernel
theorem dX5_add_35 : decode cX5_add 35 = .ok (.imul, 1) := by decide +kernel
theorem dX5_add_36 : decode cX5_add 36 = .ok (.iconst 1, 1) := by decide +kernel
theorem dX5_add_37 : decode cX5_add 37 = .ok (.iadd, 1) := by decide +kernel
theorem dX5_add_38 : decode cX5_add 38 = .ok (.iload_n 2, 1) := by decide +kernel
theorem dX5_add_39 : decode cX5_add 39 = .ok (.iastore, 1) := by decide +kernel
theorem dX5_add_40 : decode cX5_add 40 = .ok (.aload_n 0, 1) := by decide +kernel
theorem dX5_add_41 : decode cX5_add 41 = .ok (.getfield 15, 3) := by decide +kernel
theorem dX5_add_44 : decode cX5_add 44 = .ok (.aload_n 0, 1) := by decide +kernel
theorem dX5_add_45 : decode cX5_add 45 = .ok (.getfield 19, 3) := by decide +kernel
theorem dX5_add_48 : decode cX5_add 48 = .ok (.iconst 3, 1) := by decide +kernel
theorem dX5_add_49 : decode cX5_add 49 = .ok (.imul, 1) := by decide +kernel
theorem dX5_add_50 : decode cX5_add 50 = .ok (.iconst 2, 1) := by decide +kernel
theorem dX5_add_51 : decode cX5_add 51 = .ok (.iadd, 1) := by decide +kernel
theorem dX5_add_52 : decode cX5_add 52 = .ok (.iload_n 3, 1) := by decide +kernel
theorem dX5_add_53 : decode cX5_add 53 = .ok (.iastore, 1) := by decide +kernel
theorem dX5_add_54 : decode cX5_add 54 = .ok (.aload_n 0, 1) := by decide +kernel
theorem dX5_add_55 : decode cX5_add 55 = .ok (.dup, 1) := by decide +kernel
theorem dX5_add_56 : decode cX5_add 56 = .ok (.getfield 19, 3) := by decide +kernel
theorem dX5_add_59 : decode cX5_add 59 = .ok (.iconst 1, 1) := by decide +kernel
theorem dX5_add_60 : decode cX5_add 60 = .ok (.iadd, 1) := by decide +kernel
theorem dX5_add_61 : decode cX5_add 61 = .ok (.putfield 19, 3) := by decide +kernel
theorem dX5_add_64 : decode cX5_add 64 = .ok (.aload_n 0, 1) := by decide +kernel
theorem dX5_add_65 : decode cX5_add 65 = .ok (.getfield 19, 3) := by decide +kernel
theorem dX5_add_68 : decode cX5_add 68 = .ok (.ireturn, 1) := by decide +kernel
theorem dX5_part_0 : decode cX5_part 0 = .ok (.aload_n 0, 1) := by decide +kernel
theorem dX5_part_1 : decode cX5_part 1 = .ok (.getfield 15, 3) := by decide +kernel
theorem dX5_part_4 : decode cX5_part 4 = .ok (.iload_n 1, 1) := by decide +kernel
theorem dX5_part_5 : decode cX5_part 5 = .ok (.iconst 3, 1) := by decide +kernel
theorem dX5_part_6 : decode cX5_part 6 = .ok (.imul, 1) := by decide +kernel
theorem dX5_part_7 : decode cX5_part 7 = .ok (.iload_n 2, 1) := by decide +kernel
theorem dX5_part_8 : decode cX5_part 8 = .ok (.iadd, 1) := by decide +kernel
theorem dX5_part_9 : decode cX5_part 9 = .ok (.iaload, 1) := by decide +kernel
theorem dX5_part_10 : decode cX5_part 10 = .ok (.ireturn, 1) := by decide +kernel
theorem dX5_take_0 : decode cX5_take 0 = .ok (.aload_n 0, 1) := by decide +kernel
theorem dX5_take_1 : decode cX5_take 1 = .ok (.aload_n 1, 1) := by decide +kernel
theorem dX5_take_2 : decode cX5_take 2 = .ok (.getfield 19, 3) := by decide +kernel
theorem dX5_take_5 : decode cX5_take 5 = .ok (.putfield 19, 3) := by decide +kernel
theorem dX5_take_8 : decode cX5_take 8 = .ok (.aload_n 1, 1) := by decide +kernel
theorem dX5_take_9 : decode cX5_take 9 = .ok (.getfield 15, 3) := by decide +kernel
theorem dX5_take_12 : decode cX5_take 12 = .ok (.iconst 0, 1) := by decide +kernel
theorem dX5_take_13 : decode cX5_take 13 = .ok (.aload_n 0, 1) := by decide +kernel
theorem dX5_take_14 : decode cX5_take 14 = .ok (.getfield 15, 3) := by decide +kernel
theorem dX5_take_17 : decode cX5_take 17 = .ok (.iconst 0, 1) := by decide +kernel
theorem dX5_take_18 : decode cX5_take 18 = .ok (.aload_n 0, 1) := by decide +kernel
theorem dX5_take_19 : decode cX5_take 19 = .ok (.getfield 15, 3) := by decide +kernel
theorem dX5_take_22 : decode cX5_take 22 = .ok (.arraylength, 1) := by decide +kernel
theorem dX5_take_23 : decode cX5_take 23 = .ok (.invokestatic 22, 3) := by decide +kernel
theorem dX5_take_26 : decode cX5_take 26 = .ok (.return_, 1) := by decide +kernel
theorem dX6_init_0 : decode cX6_init 0 = .ok (.aload_n 0, 1) := by decide +kernel
theorem dX6_init_1 : decode cX6_init 1 = .ok (.invokespecial 1, 3) := by decide +kernel
theorem dX6_init_4 : decode cX6_init 4 = .ok (.return_, 1) := by decide +kernel
theorem dX6_tread_0 : decode cX6_tread 0 = .ok (.iconst 1, 1) := by decide +kernel
theorem dX6_tread_1 : decode cX6_tread 1 = .ok (.ireturn, 1) := by decide +kernel
theorem dX6_pullBy_0 : decode cX6_pullBy 0 = .ok (.iload_n 1, 1) := by decide +kernel
theorem dX6_pullBy_1 : decode cX6_pullBy 1 = .ok (.ineg, 1) := by decide +kernel
theorem dX6_pullBy_2 : decode cX6_pullBy 2 = .ok (.ireturn, 1) := by decide +kernel
theorem dX6_bows_0 : decode cX6_bows 0 = .ok (.aload_n 1, 1) := by decide +kernel
theorem dX6_bows_1 : decode cX6_bows 1 = .ok (.bipush 30, 2) := by decide +kernel
theorem dX6_bows_3 : decode cX6_bows 3 = .ok (.invokevirtual 7, 3) := by decide +kernel
theorem dX6_bows_6 : decode cX6_bows 6 = .ok (.aload_n 0, 1) := by decide +kernel
theorem dX6_bows_7 : decode cX6_bows 7 = .ok (.aload_n 1, 1) := by decide +kernel
theorem dX6_bows_8 : decode cX6_bows 8 = .ok (.iload_n 2, 1) := by decide +kernel
theorem dX6_bows_9 : decode cX6_bows 9 = .ok (.iconst 3, 1) := by decide +kernel
theorem dX6_bows_10 : decode cX6_bows 10 = .ok (.imul, 1) := by decide +kernel
theorem dX6_bows_11 : decode cX6_bows 11 = .ok (.invokespecial 13, 3) := by decide +kernel
theorem dX6_bows_14 : decode cX6_bows 14 = .ok (.ireturn, 1) := by decide +kernel
theorem dX7_init_0 : decode cX7_init 0 = .ok (.aload_n 0, 1) := by decide +kernel
theorem dX7_init_1 : decode cX7_init 1 = .ok (.invokespecial 3, 3) := by decide +kernel
theorem dX7_init_4 : decode cX7_init 4 = .ok (.aload_n 0, 1) := by decide +kernel
theorem dX7_init_5 : decode cX7_init 5 = .ok (.bipush 100, 2) := by decide +kernel
theorem dX7_init_7 : decode cX7_init 7 = .ok (.newarray .int, 2) := by decide +kernel
theorem dX7_init_9 : decode cX7_init 9 = .ok (.putfield 9, 3) := by decide +kernel
theorem dX7_init_12 : decode cX7_init 12 = .ok (.aload_n 0, 1) := by decide +kernel
theorem dX7_init_13 : decode cX7_init 13 = .ok (.bipush 95, 2) := by decide +kernel
theorem dX7_init_15 : decode cX7_init 15 = .ok (.putfield 15, 3) := by decide +kernel
theorem dX7_init_18 : decode cX7_init 18 = .ok (.return_, 1) := by decide +kernel
theorem dX7_readFrom_0 : decode cX7_readFrom 0 = .ok (.aload_n 0, 1) := by decide +kernel
theorem dX7_readFrom_1 : decode cX7_readFrom 1 = .ok (.aload_n 1, 1) := by decide +kernel
theorem dX7_readFrom_2 : decode cX7_readFrom 2 = .ok (.putfield 19, 3) := by decide +kernel
theorem dX7_readFrom_5 : decode cX7_readFrom 5 = .ok (.aload_n 0, 1) := by decide +kernel
theorem dX7_readFrom_6 : decode cX7_readFrom 6 = .ok (.iload_n 2, 1) := by decide +kernel
theorem dX7_readFrom_7 : decode cX7_readFrom 7 = .ok (.putfield 23, 3) := by decide +kernel
theorem dX7_readFrom_10 : decode cX7_readFrom 10 = .ok (.aload_n 0, 1) := by decide +kernel
theorem dX7_readFrom_11 : decode cX7_readFrom 11 = .ok (.iconst 0, 1) := by decide +kernel
theorem dX7_readFrom_12 : decode cX7_readFrom 12 = .ok (.putfield 26, 3) := by decide +kernel
theorem dX7_readFrom_15 : decode cX7_readFrom 15 = .ok (.aload_n 0, 1) := by decide +kernel
theorem dX7_readFrom_16 : decode cX7_readFrom 16 = .ok (.bipush 95, 2) := by decide +kernel
theorem dX7_readFrom_18 : decode cX7_readFrom 18 = .ok (.putfield 15, 3) := by decide +kernel
theorem dX7_readFrom_21 : decode cX7_readFrom 21 = .ok (.aload_n 0, 1) := by decide +kernel
theorem dX7_readFrom_22 : decode cX7_readFrom 22 = .ok (.iconst 0, 1) := by decide +kernel
theorem dX7_readFrom_23 : decode cX7_readFrom 23 = .ok (.invokevirtual 29, 3) := by decide +kernel
theorem dX7_readFrom_26 : decode cX7_readFrom 26 = .ok (.iconst 1, 1) := by decide +kernel
theorem dX7_readFrom_27 : decode cX7_readFrom 27 = .ok (.istore_n 3, 1) := by decide +kernel
theorem dX7_readFrom_28 : decode cX7_readFrom 28 = .ok (.iload_n 3, 1) := by decide +kernel
theorem dX7_readFrom_29 : decode cX7_readFrom 29 = .ok (.bipush 10, 2) := by decide +kernel
theorem dX7_readFrom_31 : decode cX7_readFrom 31 = .ok (.if_icmp .gt 55, 3) := by decide +kernel
theorem dX7_readFrom_34 : decode cX7_readFrom 34 = .ok (.aload_n 0, 1) := by decide +kernel
theorem dX7_readFrom_35 : decode cX7_readFrom 35 = .ok (.invokevirtual 33, 3) := by decide +kernel
theorem dX7_readFrom_38 : decode cX7_readFrom 38 = .ok (.ifCond .ne 5, 3) := by decide +kernel
theorem dX7_readFrom_41 : decode cX7_readFrom 41 = .ok (.iconst 0, 1) := by decide +kernel
theorem dX7_readFrom_42 : decode cX7_readFrom 42 = .ok (.ireturn, 1) := by decide +kernel
theorem dX7_readFrom_43 : decode cX7_readFrom 43 = .ok (.aload_n 0, 1) := by decide +kernel
theorem dX7_readFrom_44 : decode cX7_readFrom 44 = .ok (.getfield 37, 3) := by decide +kernel
theorem dX7_readFrom_47 : decode cX7_readFrom 47 = .ok (.iconst (-1), 1) := by decide +kernel
theorem dX7_readFrom_48 : decode cX7_readFrom 48 = .ok (.if_icmp .ne 5, 3) := by decide +kernel
theorem dX7_readFrom_51 : decode cX7_readFrom 51 = .ok (.iconst 1, 1) := by decide +kernel
theorem dX7_readFrom_52 : decode cX7_readFrom 52 = .ok (.ireturn, 1) := by decide +kernel
theorem dX7_readFrom_53 : decode cX7_readFrom 53 = .ok (.aload_n 0, 1) := by decide +kernel
theorem dX7_readFrom_54 : decode cX7_readFrom 54 = .ok (.getfield 37, 3) := by decide +kernel
theorem dX7_readFrom_57 : decode cX7_readFrom 57 = .ok (.bipush 59, 2) := by decide +kernel
theorem dX7_readFrom_59 : decode cX7_readFrom 59 = .ok (.if_icmp .ne 9, 3) := by decide +kernel
theorem dX7_readFrom_62 : decode cX7_readFrom 62 = .ok (.iload_n 3, 1) := by decide +kernel
theorem dX7_readFrom_63 : decode cX7_readFrom 63 = .ok (.bipush 10, 2) := by decide +kernel
theorem dX7_readFrom_65 : decode cX7_readFrom 65 = .ok (.if_icmp .ne 5, 3) := by decide +kernel
theorem dX7_readFrom_68 : decode cX7_readFrom 68 = .ok (.iconst 0, 1) := by decide +kernel
theorem dX7_readFrom_69 : decode cX7_readFrom 69 = .ok (.ireturn, 1) := by decide +kernel
theorem dX7_readFrom_70 : decode cX7_readFrom 70 = .ok (.aload_n 0, 1) := by decide +kernel
theorem dX7_readFrom_71 : decode cX7_readFrom 71 = .ok (.aload_n 0, 1) := by decide +kernel
theorem dX7_readFrom_72 : decode cX7_readFrom 72 = .ok (.getfield 40, 3) := by decide +kernel
theorem dX7_readFrom_75 : decode cX7_readFrom 75 = .ok (.iconst 1, 1) := by decide +kernel
theorem dX7_readFrom_76 : decode cX7_readFrom 76 = .ok (.iadd, 1) := by decide +kernel
theorem dX7_readFrom_77 : decode cX7_readFrom 77 = .ok (.invokevirtual 29, 3) := by decide +kernel
theorem dX7_readFrom_80 : decode cX7_readFrom 80 = .ok (.iinc 3 1, 3) := by decide +kernel
theorem dX7_readFrom_83 : decode cX7_readFrom 83 = .ok (.goto (-55), 3) := by decide +kernel
theorem dX7_readFrom_86 : decode cX7_readFrom 86 = .ok (.iconst 0, 1) := by decide +kernel
theorem dX7_readFrom_87 : decode cX7_readFrom 87 = .ok (.ireturn, 1) := by decide +kernel
theorem dX7_goTo_0 : decode cX7_goTo 0 = .ok (.aload_n 0, 1) := by decide +kernel
theorem dX7_goTo_1 : decode cX7_goTo 1 = .ok (.iload_n 1, 1) := by decide +kernel
theorem dX7_goTo_2 : decode cX7_goTo 2 = .ok (.putfield 40, 3) := by decide +kernel
theorem dX7_goTo_5 : decode cX7_goTo 5 = .ok (.aload_n 0, 1) := by decide +kernel
theorem dX7_goTo_6 : decode cX7_goTo 6 = .ok (.iload_n 1, 1) := by decide +kernel
theorem dX7_goTo_7 : decode cX7_goTo 7 = .ok (.ifCond .lt 20, 3) := by decide +kernel
theorem dX7_goTo_10 : decode cX7_goTo 10 = .ok (.iload_n 1, 1) := by decide +kernel
theorem dX7_goTo_11 : decode cX7_goTo 11 = .ok (.aload_n 0, 1) := by decide +kernel
theorem dX7_goTo_12 : decode cX7_goTo 12 = .ok (.getfield 23, 3) := by decide +kernel
theorem dX7_goTo_15 : decode cX7_goTo 15 = .ok (.if_icmp .ge 12, 3) := by decide +kernel
theorem dX7_goTo_18 : decode cX7_goTo 18 = .ok (.aload_n 0, 1) := by decide +kernel
theorem dX7_goTo_19 : decode cX7_goTo 19 = .ok (.getfield 19, 3) := by decide +kernel
theorem dX7_goTo_22 : decode cX7_goTo 22 = .ok (.iload_n 1, 1) := by decide +kernel
theorem dX7_goTo_23 : decode cX7_goTo 23 = .ok (.baload, 1) := by decide +kernel
theorem dX7_goTo_24 : decode cX7_goTo 24 = .ok (.goto 4, 3) := by decide +kernel
theorem dX7_goTo_27 : decode cX7_goTo 27 = .ok (.iconst (-1), 1) := by decide +kernel
theorem dX7_goTo_28 : decode cX7_goTo 28 = .ok (.putfield 37, 3) := by decide +kernel
theorem dX7_goTo_31 : decode cX7_goTo 31 = .ok (.return_, 1) := by decide +kernel
theorem dX7_readWord_0 : decode cX7_readWord 0 = .ok (.iconst 0, 1) := by decide +kernel
theorem dX7_readWord_1 : decode cX7_readWord 1 = .ok (.istore_n 2, 1) := by decide +kernel
theorem dX7_readWord_2 : decode cX7_readWord 2 = .ok (.iload_n 2, 1) := by decide +kernel
theorem dX7_readWord_3 : decode cX7_readWord 3 = .ok (.aload_n 1, 1) := by decide +kernel
theorem dX7_readWord_4 : decode cX7_readWord 4 = .ok (.invokevirtual 43, 3) := by decide +kernel
theorem dX7_readWord_7 : decode cX7_readWord 7 = .ok (.if_icmp .ge 33, 3) := by decide +kernel
theorem dX7_readWord_10 : decode cX7_readWord 10 = .ok (.aload_n 0, 1) := by decide +kernel
theorem dX7_readWord_11 : decode cX7_readWord 11 = .ok (.getfield 37, 3) := by decide +kernel
theorem dX7_readWord_14 : decode cX7_readWord 14 = .ok (.aload_n 1, 1) := by decide +kernel
theorem dX7_readWord_15 : decode cX7_readWord 15 = .ok (.iload_n 2, 1) := by decide +kernel
theorem dX7_readWord_16 : decode cX7_readWord 16 = .ok (.invokevirtual 48, 3) := by decide +kernel
theorem dX7_readWord_19 : decode cX7_readWord 19 = .ok (.if_icmp .eq 5, 3) := by decide +kernel
theorem dX7_readWord_22 : decode cX7_readWord 22 = .ok (.iconst 0, 1) := by decide +kernel
theorem dX7_readWord_23 : decode cX7_readWord 23 = .ok (.ireturn, 1) := by decide +kernel
theorem dX7_readWord_24 : decode cX7_readWord 24 = .ok (.aload_n 0, 1) := by decide +kernel
theorem dX7_readWord_25 : decode cX7_readWord 25 = .ok (.aload_n 0, 1) := by decide +kernel
theorem dX7_readWord_26 : decode cX7_readWord 26 = .ok (.getfield 40, 3) := by decide +kernel
theorem dX7_readWord_29 : decode cX7_readWord 29 = .ok (.iconst 1, 1) := by decide +kernel
theorem dX7_readWord_30 : decode cX7_readWord 30 = .ok (.iadd, 1) := by decide +kernel
theorem dX7_readWord_31 : decode cX7_readWord 31 = .ok (.invokevirtual 29, 3) := by decide +kernel
theorem dX7_readWord_34 : decode cX7_readWord 34 = .ok (.iinc 2 1, 3) := by decide +kernel
theorem dX7_readWord_37 : decode cX7_readWord 37 = .ok (.goto (-35), 3) := by decide +kernel
theorem dX7_readWord_40 : decode cX7_readWord 40 = .ok (.iconst 1, 1) := by decide +kernel
theorem dX7_readWord_41 : decode cX7_readWord 41 = .ok (.ireturn, 1) := by decide +kernel
theorem dX7_readClause_0 : decode cX7_readClause 0 = .ok (.iconst 4, 1) := by decide +kernel
theorem dX7_readClause_1 : decode cX7_readClause 1 = .ok (.istore_n 1, 1) := by decide +kernel
theorem dX7_readClause_2 : decode cX7_readClause 2 = .ok (.aload_n 0, 1) := by decide +kernel
theorem dX7_readClause_3 : decode cX7_readClause 3 = .ok (.getfield 37, 3) := by decide +kernel
theorem dX7_readClause_6 : decode cX7_readClause 6 = .ok (.bipush 100, 2) := by decide +kernel
theorem dX7_readClause_8 : decode cX7_readClause 8 = .ok (.if_icmp .ne 14, 3) := by decide +kernel
theorem dX7_readClause_11 : decode cX7_readClause 11 = .ok (.aload_n 0, 1) := by decide +kernel
theorem dX7_readClause_12 : decode cX7_readClause 12 = .ok (.ldc 52, 2) := by decide +kernel
theorem dX7_readClause_14 : decode cX7_readClause 14 = .ok (.invokevirtual 54, 3) := by decide +kernel
theorem dX7_readClause_17 : decode cX7_readClause 17 = .ok (.ifCond .ne 43, 3) := by decide +kernel
theorem dX7_readClause_20 : decode cX7_readClause 20 = .ok (.iconst 0, 1) := by decide +kernel
theorem dX7_readClause_21 : decode cX7_readClause 21 = .ok (.ireturn, 1) := by decide +kernel
theorem dX7_readClause_22 : decode cX7_readClause 22 = .ok (.aload_n 0, 1) := by decide +kernel
theorem dX7_readClause_23 : decode cX7_readClause 23 = .ok (.ldc 58, 2) := by decide +kernel
theorem dX7_readClause_25 : decode cX7_readClause 25 = .ok (.invokevirtual 54, 3) := by decide +kernel
theorem dX7_readClause_28 : decode cX7_readClause 28 = .ok (.ifCond .ne 5, 3) := by decide +kernel
theorem dX7_readClause_31 : decode cX7_readClause 31 = .ok (.iconst 0, 1) := by decide +kernel
theorem dX7_readClause_32 : decode cX7_readClause 32 = .ok (.ireturn, 1) := by decide +kernel
theorem dX7_readClause_33 : decode cX7_readClause 33 = .ok (.iconst 5, 1) := by decide +kernel
theorem dX7_readClause_34 : decode cX7_readClause 34 = .ok (.istore_n 1, 1) := by decide +kernel
theorem dX7_readClause_35 : decode cX7_readClause 35 = .ok (.aload_n 0, 1) := by decide +kernel
theorem dX7_readClause_36 : decode cX7_readClause 36 = .ok (.getfield 37, 3) := by decide +kernel
theorem dX7_readClause_39 : decode cX7_readClause 39 = .ok (.bipush 114, 2) := by decide +kernel
theorem dX7_readClause_41 : decode cX7_readClause 41 = .ok (.if_icmp .eq 8, 3) := by decide +kernel
theorem dX7_readClause_44 : decode cX7_readClause 44 = .ok (.aload_n 0, 1) := by decide +kernel
theorem dX7_readClause_45 : decode cX7_readClause 45 = .ok (.invokevirtual 60, 3) := by decide +kernel
theorem dX7_readClause_48 : decode cX7_readClause 48 = .ok (.ireturn, 1) := by decide +kernel
theorem dX7_readClause_49 : decode cX7_readClause 49 = .ok (.aload_n 0, 1) := by decide +kernel
theorem dX7_readClause_50 : decode cX7_readClause 50 = .ok (.ldc 63, 2) := by decide +kernel
theorem dX7_readClause_52 : decode cX7_readClause 52 = .ok (.invokevirtual 54, 3) := by decide +kernel
theorem dX7_readClause_55 : decode cX7_readClause 55 = .ok (.ifCond .ne 5, 3) := by decide +kernel
theorem dX7_readClause_58 : decode cX7_readClause 58 = .ok (.iconst 0, 1) := by decide +kernel
theorem dX7_readClause_59 : decode cX7_readClause 59 = .ok (.ireturn, 1) := by decide +kernel
theorem dX7_readClause_60 : decode cX7_readClause 60 = .ok (.aload_n 0, 1) := by decide +kernel
theorem dX7_readClause_61 : decode cX7_readClause 61 = .ok (.invokevirtual 65, 3) := by decide +kernel
theorem dX7_readClause_64 : decode cX7_readClause 64 = .ok (.istore_n 2, 1) := by decide +kernel
theorem dX7_readClause_65 : decode cX7_readClause 65 = .ok (.iload_n 2, 1) := by decide +kernel
theorem dX7_readClause_66 : decode cX7_readClause 66 = .ok (.iconst (-1), 1) := by decide +kernel
theorem dX7_readClause_67 : decode cX7_readClause 67 = .ok (.if_icmp .eq 20, 3) := by decide +kernel
theorem dX7_readClause_70 : decode cX7_readClause 70 = .ok (.aload_n 0, 1) := by decide +kernel
theorem dX7_readClause_71 : decode cX7_readClause 71 = .ok (.ldc 68, 2) := by decide +kernel
theorem dX7_readClause_73 : decode cX7_readClause 73 = .ok (.invokevirtual 54, 3) := by decide +kernel
theorem dX7_readClause_76 : decode cX7_readClause 76 = .ok (.ifCond .eq 11, 3) := by decide +kernel
theorem dX7_readClause_79 : decode cX7_readClause 79 = .ok (.aload_n 0, 1) := by decide +kernel
theorem dX7_readClause_80 : decode cX7_readClause 80 = .ok (.iconst 0, 1) := by decide +kernel
theorem dX7_readClause_81 : decode cX7_readClause 81 = .ok (.invokevirtual 70, 3) := by decide +kernel
theorem dX7_readClause_84 : decode cX7_readClause 84 = .ok (.ifCond .ne 5, 3) := by decide +kernel
theorem dX7_readClause_87 : decode cX7_readClause 87 = .ok (.iconst 0, 1) := by decide +kernel
theorem dX7_readClause_88 : decode cX7_readClause 88 = .ok (.ireturn, 1) := by decide +kernel
theorem dX7_readClause_89 : decode cX7_readClause 89 = .ok (.aload_n 0, 1) := by decide +kernel
theorem dX7_readClause_90 : decode cX7_readClause 90 = .ok (.iload_n 1, 1) := by decide +kernel
theorem dX7_readClause_91 : decode cX7_readClause 91 = .ok (.iload_n 2, 1) := by decide +kernel
theorem dX7_readClause_92 : decode cX7_readClause 92 = .ok (.invokevirtual 74, 3) := by decide +kernel
theorem dX7_readClause_95 : decode cX7_readClause 95 = .ok (.iconst 1, 1) := by decide +kernel
theorem dX7_readClause_96 : decode cX7_readClause 96 = .ok (.ireturn, 1) := by decide +kernel
theorem dX7_readBald_0 : decode cX7_readBald 0 = .ok (.aload_n 0, 1) := by decide +kernel
theorem dX7_readBald_1 : decode cX7_readBald 1 = .ok (.ldc 78, 2) := by decide +kernel
theorem dX7_readBald_3 : decode cX7_readBald 3 = .ok (.invokevirtual 54, 3) := by decide +kernel
theorem dX7_readBald_6 : decode cX7_readBald 6 = .ok (.ifCond .ne 5, 3) := by decide +kernel
theorem dX7_readBald_9 : decode cX7_readBald 9 = .ok (.iconst 0, 1) := by decide +kernel
theorem dX7_readBald_10 : decode cX7_readBald 10 = .ok (.ireturn, 1) := by decide +kernel
theorem dX7_readBald_11 : decode cX7_readBald 11 = .ok (.aload_n 0, 1) := by decide +kernel
theorem dX7_readBald_12 : decode cX7_readBald 12 = .ok (.invokevirtual 65, 3) := by decide +kernel
theorem dX7_readBald_15 : decode cX7_readBald 15 = .ok (.istore_n 1, 1) := by decide +kernel
theorem dX7_readBald_16 : decode cX7_readBald 16 = .ok (.iload_n 1, 1) := by decide +kernel
theorem dX7_readBald_17 : decode cX7_readBald 17 = .ok (.iconst (-1), 1) := by decide +kernel
theorem dX7_readBald_18 : decode cX7_readBald 18 = .ok (.if_icmp .ne 5, 3) := by decide +kernel
theorem dX7_readBald_21 : decode cX7_readBald 21 = .ok (.iconst 0, 1) := by decide +kernel
theorem dX7_readBald_22 : decode cX7_readBald 22 = .ok (.ireturn, 1) := by decide +kernel
theorem dX7_readBald_23 : decode cX7_readBald 23 = .ok (.aload_n 0, 1) := by decide +kernel
theorem dX7_readBald_24 : decode cX7_readBald 24 = .ok (.iload_n 1, 1) := by decide +kernel
theorem dX7_readBald_25 : decode cX7_readBald 25 = .ok (.putfield 15, 3) := by decide +kernel
theorem dX7_readBald_28 : decode cX7_readBald 28 = .ok (.iconst 1, 1) := by decide +kernel
theorem dX7_readBald_29 : decode cX7_readBald 29 = .ok (.ireturn, 1) := by decide +kernel
theorem dX7_readNumber_0 : decode cX7_readNumber 0 = .ok (.aload_n 0, 1) := by decide +kernel
theorem dX7_readNumber_1 : decode cX7_readNumber 1 = .ok (.getfield 37, 3) := by decide +kernel
theorem dX7_readNumber_4 : decode cX7_readNumber 4 = .ok (.bipush 48, 2) := by decide +kernel
theorem dX7_readNumber_6 : decode cX7_readNumber 6 = .ok (.if_icmp .lt 12, 3) := by decide +kernel
theorem dX7_readNumber_9 : decode cX7_readNumber 9 = .ok (.aload_n 0, 1) := by decide +kernel
theorem dX7_readNumber_10 : decode cX7_readNumber 10 = .ok (.getfield 37, 3) := by decide +kernel
theorem dX7_readNumber_13 : decode cX7_readNumber 13 = .ok (.bipush 57, 2) := by decide +kernel
theorem dX7_readNumber_15 : decode cX7_readNumber 15 = .ok (.if_icmp .le 5, 3) := by decide +kernel
theorem dX7_readNumber_18 : decode cX7_readNumber 18 = .ok (.iconst (-1), 1) := by decide +kernel
theorem dX7_readNumber_19 : decode cX7_readNumber 19 = .ok (.ireturn, 1) := by decide +kernel
theorem dX7_readNumber_20 : decode cX7_readNumber 20 = .ok (.aload_n 0, 1) := by decide +kernel
theorem dX7_readNumber_21 : decode cX7_readNumber 21 = .ok (.getfield 37, 3) := by decide +kernel
theorem dX7_readNumber_24 : decode cX7_readNumber 24 = .ok (.bipush 48, 2) := by decide +kernel
theorem dX7_readNumber_26 : decode cX7_readNumber 26 = .ok (.isub, 1) := by decide +kernel
theorem dX7_readNumber_27 : decode cX7_readNumber 27 = .ok (.istore_n 1, 1) := by decide +kernel
theorem dX7_readNumber_28 : decode cX7_readNumber 28 = .ok (.aload_n 0, 1) := by decide +kernel
theorem dX7_readNumber_29 : decode cX7_readNumber 29 = .ok (.aload_n 0, 1) := by decide +kernel
theorem dX7_readNumber_30 : decode cX7_readNumber 30 = .ok (.getfield 40, 3) := by decide +kernel
theorem dX7_readNumber_33 : decode cX7_readNumber 33 = .ok (.iconst 1, 1) := by decide +kernel
theorem dX7_readNumber_34 : decode cX7_readNumber 34 = .ok (.iadd, 1) := by decide +kernel
theorem dX7_readNumber_35 : decode cX7_readNumber 35 = .ok (.invokevirtual 29, 3) := by decide +kernel
theorem dX7_readNumber_38 : decode cX7_readNumber 38 = .ok (.aload_n 0, 1) := by decide +kernel
theorem dX7_readNumber_39 : decode cX7_readNumber 39 = .ok (.getfield 37, 3) := by decide +kernel
theorem dX7_readNumber_42 : decode cX7_readNumber 42 = .ok (.bipush 48, 2) := by decide +kernel
theorem dX7_readNumber_44 : decode cX7_readNumber 44 = .ok (.if_icmp .lt 35, 3) := by decide +kernel
theorem dX7_readNumber_47 : decode cX7_readNumber 47 = .ok (.aload_n 0, 1) := by decide +kernel
theorem dX7_readNumber_48 : decode cX7_readNumber 48 = .ok (.getfield 37, 3) := by decide +kernel
theorem dX7_readNumber_51 : decode cX7_readNumber 51 = .ok (.bipush 57, 2) := by decide +kernel
theorem dX7_readNumber_53 : decode cX7_readNumber 53 = .ok (.if_icmp .gt 26, 3) := by decide +kernel
theorem dX7_readNumber_56 : decode cX7_readNumber 56 = .ok (.iload_n 1, 1) := by decide +kernel
theorem dX7_readNumber_57 : decode cX7_readNumber 57 = .ok (.bipush 10, 2) := by decide +kernel
theorem dX7_readNumber_59 : decode cX7_readNumber 59 = .ok (.imul, 1) := by decide +kernel
theorem dX7_readNumber_60 : decode cX7_readNumber 60 = .ok (.aload_n 0, 1) := by decide +kernel
theorem dX7_readNumber_61 : decode cX7_readNumber 61 = .ok (.getfield 37, 3) := by decide +kernel
theorem dX7_readNumber_64 : decode cX7_readNumber 64 = .ok (.iadd, 1) := by decide +kernel
theorem dX7_readNumber_65 : decode cX7_readNumber 65 = .ok (.bipush 48, 2) := by decide +kernel
theorem dX7_readNumber_67 : decode cX7_readNumber 67 = .ok (.isub, 1) := by decide +kernel
theorem dX7_readNumber_68 : decode cX7_readNumber 68 = .ok (.istore_n 1, 1) := by decide +kernel
theorem dX7_readNumber_69 : decode cX7_readNumber 69 = .ok (.aload_n 0, 1) := by decide +kernel
theorem dX7_readNumber_70 : decode cX7_readNumber 70 = .ok (.aload_n 0, 1) := by decide +kernel
theorem dX7_readNumber_71 : decode cX7_readNumber 71 = .ok (.getfield 40, 3) := by decide +kernel
theorem dX7_readNumber_74 : decode cX7_readNumber 74 = .ok (.iconst 1, 1) := by decide +kernel
theorem dX7_readNumber_75 : decode cX7_readNumber 75 = .ok (.iadd, 1) := by decide +kernel
theorem dX7_readNumber_76 : decode cX7_readNumber 76 = .ok (.invokevirtual 29, 3) := by decide +kernel
theorem dX7_readNumber_79 : decode cX7_readNumber 79 = .ok (.iload_n 1, 1) := by decide +kernel
theorem dX7_readNumber_80 : decode cX7_readNumber 80 = .ok (.ireturn, 1) := by decide +kernel
theorem dX7_readEither_0 : decode cX7_readEither 0 = .ok (.iconst 0, 1) := by decide +kernel
theorem dX7_readEither_1 : decode cX7_readEither 1 = .ok (.istore_n 2, 1) := by decide +kernel
theorem dX7_readEither_2 : decode cX7_readEither 2 = .ok (.iconst 0, 1) := by decide +kernel
theorem dX7_readEither_3 : decode cX7_readEither 3 = .ok (.istore_n 3, 1) := by decide +kernel
theorem dX7_readEither_4 : decode cX7_readEither 4 = .ok (.iconst 0, 1) := by decide +kernel
theorem dX7_readEither_5 : decode cX7_readEither 5 = .ok (.istore 4, 2) := by decide +kernel
theorem dX7_readEither_7 : decode cX7_readEither 7 = .ok (.iload 4, 2) := by decide +kernel
theorem dX7_readEither_9 : decode cX7_readEither 9 = .ok (.bipush 100, 2) := by decide +kernel
theorem dX7_readEither_11 : decode cX7_readEither 11 = .ok (.if_icmp .ge 89, 3) := by decide +kernel
theorem dX7_readEither_14 : decode cX7_readEither 14 = .ok (.aload_n 0, 1) := by decide +kernel
theorem dX7_readEither_15 : decode cX7_readEither 15 = .ok (.iload_n 1, 1) := by decide +kernel
theorem dX7_readEither_16 : decode cX7_readEither 16 = .ok (.invokevirtual 80, 3) := by decide +kernel
theorem dX7_readEither_19 : decode cX7_readEither 19 = .ok (.ifCond .ne 5, 3) := by decide +kernel
theorem dX7_readEither_22 : decode cX7_readEither 22 = .ok (.iconst 0, 1) := by decide +kernel
theorem dX7_readEither_23 : decode cX7_readEither 23 = .ok (.ireturn, 1) := by decide +kernel
theorem dX7_readEither_24 : decode cX7_readEither 24 = .ok (.iload_n 2, 1) := by decide +kernel
theorem dX7_readEither_25 : decode cX7_readEither 25 = .ok (.ifCond .eq 9, 3) := by decide +kernel
theorem dX7_readEither_28 : decode cX7_readEither 28 = .ok (.aload_n 0, 1) := by decide +kernel
theorem dX7_readEither_29 : decode cX7_readEither 29 = .ok (.iconst 2, 1) := by decide +kernel
theorem dX7_readEither_30 : decode cX7_readEither 30 = .ok (.iconst 0, 1) := by decide +kernel
theorem dX7_readEither_31 : decode cX7_readEither 31 = .ok (.invokevirtual 74, 3) := by decide +kernel
theorem dX7_readEither_34 : decode cX7_readEither 34 = .ok (.aload_n 0, 1) := by decide +kernel
theorem dX7_readEither_35 : decode cX7_readEither 35 = .ok (.getfield 37, 3) := by decide +kernel
theorem dX7_readEither_38 : decode cX7_readEither 38 = .ok (.bipush 38, 2) := by decide +kernel
theorem dX7_readEither_40 : decode cX7_readEither 40 = .ok (.if_icmp .ne 7, 3) := by decide +kernel
theorem dX7_readEither_43 : decode cX7_readEither 43 = .ok (.iconst 1, 1) := by decide +kernel
theorem dX7_readEither_44 : decode cX7_readEither 44 = .ok (.goto 4, 3) := by decide +kernel
theorem dX7_readEither_47 : decode cX7_readEither 47 = .ok (.iconst 0, 1) := by decide +kernel
theorem dX7_readEither_48 : decode cX7_readEither 48 = .ok (.istore_n 2, 1) := by decide +kernel
theorem dX7_readEither_49 : decode cX7_readEither 49 = .ok (.iload_n 2, 1) := by decide +kernel
theorem dX7_readEither_50 : decode cX7_readEither 50 = .ok (.ifCond .ne 34, 3) := by decide +kernel
theorem dX7_readEither_53 : decode cX7_readEither 53 = .ok (.iload_n 3, 1) := by decide +kernel
theorem dX7_readEither_54 : decode cX7_readEither 54 = .ok (.ifCond .eq 9, 3) := by decide +kernel
theorem dX7_readEither_57 : decode cX7_readEither 57 = .ok (.aload_n 0, 1) := by decide +kernel
theorem dX7_readEither_58 : decode cX7_readEither 58 = .ok (.iconst 3, 1) := by decide +kernel
theorem dX7_readEither_59 : decode cX7_readEither 59 = .ok (.iconst 0, 1) := by decide +kernel
theorem dX7_readEither_60 : decode cX7_readEither 60 = .ok (.invokevirtual 74, 3) := by decide +kernel
theorem dX7_readEither_63 : decode cX7_readEither 63 = .ok (.aload_n 0, 1) := by decide +kernel
theorem dX7_readEither_64 : decode cX7_readEither 64 = .ok (.getfield 37, 3) := by decide +kernel
theorem dX7_readEither_67 : decode cX7_readEither 67 = .ok (.bipush 124, 2) := by decide +kernel
theorem dX7_readEither_69 : decode cX7_readEither 69 = .ok (.if_icmp .ne 7, 3) := by decide +kernel
theorem dX7_readEither_72 : decode cX7_readEither 72 = .ok (.iconst 1, 1) := by decide +kernel
theorem dX7_readEither_73 : decode cX7_readEither 73 = .ok (.goto 4, 3) := by decide +kernel
theorem dX7_readEither_76 : decode cX7_readEither 76 = .ok (.iconst 0, 1) := by decide +kernel
theorem dX7_readEither_77 : decode cX7_readEither 77 = .ok (.istore_n 3, 1) := by decide +kernel
theorem dX7_readEither_78 : decode cX7_readEither 78 = .ok (.iload_n 3, 1) := by decide +kernel
theorem dX7_readEither_79 : decode cX7_readEither 79 = .ok (.ifCond .ne 5, 3) := by decide +kernel
theorem dX7_readEither_82 : decode cX7_readEither 82 = .ok (.iconst 1, 1) := by decide +kernel
theorem dX7_readEither_83 : decode cX7_readEither 83 = .ok (.ireturn, 1) := by decide +kernel
theorem dX7_readEither_84 : decode cX7_readEither 84 = .ok (.aload_n 0, 1) := by decide +kernel
theorem dX7_readEither_85 : decode cX7_readEither 85 = .ok (.aload_n 0, 1) := by decide +kernel
theorem dX7_readEither_86 : decode cX7_readEither 86 = .ok (.getfield 40, 3) := by decide +kernel
theorem dX7_readEither_89 : decode cX7_readEither 89 = .ok (.iconst 1, 1) := by decide +kernel
theorem dX7_readEither_90 : decode cX7_readEither 90 = .ok (.iadd, 1) := by decide +kernel
theorem dX7_readEither_91 : decode cX7_readEither 91 = .ok (.invokevirtual 29, 3) := by decide +kernel
theorem dX7_readEither_94 : decode cX7_readEither 94 = .ok (.iinc 4 1, 3) := by decide +kernel
theorem dX7_readEither_97 : decode cX7_readEither 97 = .ok (.goto (-90), 3) := by decide +kernel
theorem dX7_readEither_100 : decode cX7_readEither 100 = .ok (.iconst 0, 1) := by decide +kernel
theorem dX7_readEither_101 : decode cX7_readEither 101 = .ok (.ireturn, 1) := by decide +kernel
theorem dX7_readFactor_0 : decode cX7_readFactor 0 = .ok (.aload_n 0, 1) := by decide +kernel
theorem dX7_readFactor_1 : decode cX7_readFactor 1 = .ok (.getfield 37, 3) := by decide +kernel
theorem dX7_readFactor_4 : decode cX7_readFactor 4 = .ok (.bipush 33, 2) := by decide +kernel
theorem dX7_readFactor_6 : decode cX7_readFactor 6 = .ok (.if_icmp .eq 17, 3) := by decide +kernel
theorem dX7_readFactor_9 : decode cX7_readFactor 9 = .ok (.aload_n 0, 1) := by decide +kernel
theorem dX7_readFactor_10 : decode cX7_readFactor 10 = .ok (.getfield 37, 3) := by decide +kernel
theorem dX7_readFactor_13 : decode cX7_readFactor 13 = .ok (.bipush 40, 2) := by decide +kernel
theorem dX7_readFactor_15 : decode cX7_readFactor 15 = .ok (.if_icmp .eq 8, 3) := by decide +kernel
theorem dX7_readFactor_18 : decode cX7_readFactor 18 = .ok (.aload_n 0, 1) := by decide +kernel
theorem dX7_readFactor_19 : decode cX7_readFactor 19 = .ok (.invokevirtual 83, 3) := by decide +kernel
theorem dX7_readFactor_22 : decode cX7_readFactor 22 = .ok (.ireturn, 1) := by decide +kernel
theorem dX7_readFactor_23 : decode cX7_readFactor 23 = .ok (.iload_n 1, 1) := by decide +kernel
theorem dX7_readFactor_24 : decode cX7_readFactor 24 = .ok (.iconst 4, 1) := by decide +kernel
theorem dX7_readFactor_25 : decode cX7_readFactor 25 = .ok (.if_icmp .lt 5, 3) := by decide +kernel
theorem dX7_readFactor_28 : decode cX7_readFactor 28 = .ok (.iconst 0, 1) := by decide +kernel
theorem dX7_readFactor_29 : decode cX7_readFactor 29 = .ok (.ireturn, 1) := by decide +kernel
theorem dX7_readFactor_30 : decode cX7_readFactor 30 = .ok (.aload_n 0, 1) := by decide +kernel
theorem dX7_readFactor_31 : decode cX7_readFactor 31 = .ok (.getfield 37, 3) := by decide +kernel
theorem dX7_readFactor_34 : decode cX7_readFactor 34 = .ok (.bipush 33, 2) := by decide +kernel
theorem dX7_readFactor_36 : decode cX7_readFactor 36 = .ok (.if_icmp .ne 7, 3) := by decide +kernel
theorem dX7_readFactor_39 : decode cX7_readFactor 39 = .ok (.iconst 1, 1) := by decide +kernel
theorem dX7_readFactor_40 : decode cX7_readFactor 40 = .ok (.goto 4, 3) := by decide +kernel
theorem dX7_readFactor_43 : decode cX7_readFactor 43 = .ok (.iconst 0, 1) := by decide +kernel
theorem dX7_readFactor_44 : decode cX7_readFactor 44 = .ok (.istore_n 2, 1) := by decide +kernel
theorem dX7_readFactor_45 : decode cX7_readFactor 45 = .ok (.aload_n 0, 1) := by decide +kernel
theorem dX7_readFactor_46 : decode cX7_readFactor 46 = .ok (.aload_n 0, 1) := by decide +kernel
theorem dX7_readFactor_47 : decode cX7_readFactor 47 = .ok (.getfield 40, 3) := by decide +kernel
theorem dX7_readFactor_50 : decode cX7_readFactor 50 = .ok (.iconst 1, 1) := by decide +kernel
theorem dX7_readFactor_51 : decode cX7_readFactor 51 = .ok (.iadd, 1) := by decide +kernel
theorem dX7_readFactor_52 : decode cX7_readFactor 52 = .ok (.invokevirtual 29, 3) := by decide +kernel
theorem dX7_readFactor_55 : decode cX7_readFactor 55 = .ok (.iload_n 2, 1) := by decide +kernel
theorem dX7_readFactor_56 : decode cX7_readFactor 56 = .ok (.ifCond .ne 28, 3) := by decide +kernel
theorem dX7_readFactor_59 : decode cX7_readFactor 59 = .ok (.aload_n 0, 1) := by decide +kernel
theorem dX7_readFactor_60 : decode cX7_readFactor 60 = .ok (.iload_n 1, 1) := by decide +kernel
theorem dX7_readFactor_61 : decode cX7_readFactor 61 = .ok (.iconst 1, 1) := by decide +kernel
theorem dX7_readFactor_62 : decode cX7_readFactor 62 = .ok (.iadd, 1) := by decide +kernel
theorem dX7_readFactor_63 : decode cX7_readFactor 63 = .ok (.invokevirtual 70, 3) := by decide +kernel
theorem dX7_readFactor_66 : decode cX7_readFactor 66 = .ok (.ifCond .eq 16, 3) := by decide +kernel
theorem dX7_readFactor_69 : decode cX7_readFactor 69 = .ok (.aload_n 0, 1) := by decide +kernel
theorem dX7_readFactor_70 : decode cX7_readFactor 70 = .ok (.ldc 86, 2) := by decide +kernel
theorem dX7_readFactor_72 : decode cX7_readFactor 72 = .ok (.invokevirtual 54, 3) := by decide +kernel
theorem dX7_readFactor_75 : decode cX7_readFactor 75 = .ok (.ifCond .eq 7, 3) := by decide +kernel
theorem dX7_readFactor_78 : decode cX7_readFactor 78 = .ok (.iconst 1, 1) := by decide +kernel
theorem dX7_readFactor_79 : decode cX7_readFactor 79 = .ok (.goto 4, 3) := by decide +kernel
theorem dX7_readFactor_82 : decode cX7_readFactor 82 = .ok (.iconst 0, 1) := by decide +kernel
theorem dX7_readFactor_83 : decode cX7_readFactor 83 = .ok (.ireturn, 1) := by decide +kernel
theorem dX7_readFactor_84 : decode cX7_readFactor 84 = .ok (.aload_n 0, 1) := by decide +kernel
theorem dX7_readFactor_85 : decode cX7_readFactor 85 = .ok (.iload_n 1, 1) := by decide +kernel
theorem dX7_readFactor_86 : decode cX7_readFactor 86 = .ok (.iconst 1, 1) := by decide +kernel
theorem dX7_readFactor_87 : decode cX7_readFactor 87 = .ok (.iadd, 1) := by decide +kernel
theorem dX7_readFactor_88 : decode cX7_readFactor 88 = .ok (.invokevirtual 80, 3) := by decide +kernel
theorem dX7_readFactor_91 : decode cX7_readFactor 91 = .ok (.ifCond .ne 5, 3) := by decide +kernel
theorem dX7_readFactor_94 : decode cX7_readFactor 94 = .ok (.iconst 0, 1) := by decide +kernel
theorem dX7_readFactor_95 : decode cX7_readFactor 95 = .ok (.ireturn, 1) := by decide +kernel
theorem dX7_readFactor_96 : decode cX7_readFactor 96 = .ok (.aload_n 0, 1) := by decide +kernel
theorem dX7_readFactor_97 : decode cX7_readFactor 97 = .ok (.iconst 1, 1) := by decide +kernel
theorem dX7_readFactor_98 : decode cX7_readFactor 98 = .ok (.iconst 0, 1) := by decide +kernel
theorem dX7_readFactor_99 : decode cX7_readFactor 99 = .ok (.invokevirtual 74, 3) := by decide +kernel
theorem dX7_readFactor_102 : decode cX7_readFactor 102 = .ok (.iconst 1, 1) := by decide +kernel
theorem dX7_readFactor_103 : decode cX7_readFactor 103 = .ok (.ireturn, 1) := by decide +kernel
theorem dX7_readTest_0 : decode cX7_readTest 0 = .ok (.aload_n 0, 1) := by decide +kernel
theorem dX7_readTest_1 : decode cX7_readTest 1 = .ok (.getfield 37, 3) := by decide +kernel
theorem dX7_readTest_4 : decode cX7_readTest 4 = .ok (.ifCond .ge 7, 3) := by decide +kernel
theorem dX7_readTest_7 : decode cX7_readTest 7 = .ok (.iconst (-1), 1) := by decide +kernel
theorem dX7_readTest_8 : decode cX7_readTest 8 = .ok (.goto 13, 3) := by decide +kernel
theorem dX7_readTest_11 : decode cX7_readTest 11 = .ok (.ldc 88, 2) := by decide +kernel
theorem dX7_readTest_13 : decode cX7_readTest 13 = .ok (.aload_n 0, 1) := by decide +kernel
theorem dX7_readTest_14 : decode cX7_readTest 14 = .ok (.getfield 37, 3) := by decide +kernel
theorem dX7_readTest_17 : decode cX7_readTest 17 = .ok (.i2c, 1) := by decide +kernel
theorem dX7_readTest_18 : decode cX7_readTest 18 = .ok (.invokevirtual 90, 3) := by decide +kernel
theorem dX7_readTest_21 : decode cX7_readTest 21 = .ok (.istore_n 1, 1) := by decide +kernel
theorem dX7_readTest_22 : decode cX7_readTest 22 = .ok (.iload_n 1, 1) := by decide +kernel
theorem dX7_readTest_23 : decode cX7_readTest 23 = .ok (.ifCond .ge 5, 3) := by decide +kernel
theorem dX7_readTest_26 : decode cX7_readTest 26 = .ok (.iconst 0, 1) := by decide +kernel
theorem dX7_readTest_27 : decode cX7_readTest 27 = .ok (.ireturn, 1) := by decide +kernel
theorem dX7_readTest_28 : decode cX7_readTest 28 = .ok (.aload_n 0, 1) := by decide +kernel
theorem dX7_readTest_29 : decode cX7_readTest 29 = .ok (.aload_n 0, 1) := by decide +kernel
theorem dX7_readTest_30 : decode cX7_readTest 30 = .ok (.getfield 40, 3) := by decide +kernel
theorem dX7_readTest_33 : decode cX7_readTest 33 = .ok (.iconst 1, 1) := by decide +kernel
theorem dX7_readTest_34 : decode cX7_readTest 34 = .ok (.iadd, 1) := by decide +kernel
theorem dX7_readTest_35 : decode cX7_readTest 35 = .ok (.invokevirtual 29, 3) := by decide +kernel
theorem dX7_readTest_38 : decode cX7_readTest 38 = .ok (.aload_n 0, 1) := by decide +kernel
theorem dX7_readTest_39 : decode cX7_readTest 39 = .ok (.getfield 37, 3) := by decide +kernel
theorem dX7_readTest_42 : decode cX7_readTest 42 = .ok (.ifCond .ge 7, 3) := by decide +kernel
theorem dX7_readTest_45 : decode cX7_readTest 45 = .ok (.iconst (-1), 1) := by decide +kernel
theorem dX7_readTest_46 : decode cX7_readTest 46 = .ok (.goto 13, 3) := by decide +kernel
theorem dX7_readTest_49 : decode cX7_readTest 49 = .ok (.ldc 94, 2) := by decide +kernel
theorem dX7_readTest_51 : decode cX7_readTest 51 = .ok (.aload_n 0, 1) := by decide +kernel
theorem dX7_readTest_52 : decode cX7_readTest 52 = .ok (.getfield 37, 3) := by decide +kernel
theorem dX7_readTest_55 : decode cX7_readTest 55 = .ok (.i2c, 1) := by decide +kernel
theorem dX7_readTest_56 : decode cX7_readTest 56 = .ok (.invokevirtual 90, 3) := by decide +kernel
theorem dX7_readTest_59 : decode cX7_readTest 59 = .ok (.istore_n 2, 1) := by decide +kernel
theorem dX7_readTest_60 : decode cX7_readTest 60 = .ok (.iload_n 2, 1) := by decide +kernel
theorem dX7_readTest_61 : decode cX7_readTest 61 = .ok (.ifCond .ge 5, 3) := by decide +kernel
theorem dX7_readTest_64 : decode cX7_readTest 64 = .ok (.iconst 0, 1) := by decide +kernel
theorem dX7_readTest_65 : decode cX7_readTest 65 = .ok (.ireturn, 1) := by decide +kernel
theorem dX7_readTest_66 : decode cX7_readTest 66 = .ok (.aload_n 0, 1) := by decide +kernel
theorem dX7_readTest_67 : decode cX7_readTest 67 = .ok (.aload_n 0, 1) := by decide +kernel
theorem dX7_readTest_68 : decode cX7_readTest 68 = .ok (.getfield 40, 3) := by decide +kernel
theorem dX7_readTest_71 : decode cX7_readTest 71 = .ok (.iconst 1, 1) := by decide +kernel
theorem dX7_readTest_72 : decode cX7_readTest 72 = .ok (.iadd, 1) := by decide +kernel
theorem dX7_readTest_73 : decode cX7_readTest 73 = .ok (.invokevirtual 29, 3) := by decide +kernel
theorem dX7_readTest_76 : decode cX7_readTest 76 = .ok (.aload_n 0, 1) := by decide +kernel
theorem dX7_readTest_77 : decode cX7_readTest 77 = .ok (.invokevirtual 65, 3) := by decide +kernel
theorem dX7_readTest_80 : decode cX7_readTest 80 = .ok (.istore_n 3, 1) := by decide +kernel
theorem dX7_readTest_81 : decode cX7_readTest 81 = .ok (.iload_n 3, 1) := by decide +kernel
theorem dX7_readTest_82 : decode cX7_readTest 82 = .ok (.iconst (-1), 1) := by decide +kernel
theorem dX7_readTest_83 : decode cX7_readTest 83 = .ok (.if_icmp .ne 5, 3) := by decide +kernel
theorem dX7_readTest_86 : decode cX7_readTest 86 = .ok (.iconst 0, 1) := by decide +kernel
theorem dX7_readTest_87 : decode cX7_readTest 87 = .ok (.ireturn, 1) := by decide +kernel
theorem dX7_readTest_88 : decode cX7_readTest 88 = .ok (.aload_n 0, 1) := by decide +kernel
theorem dX7_readTest_89 : decode cX7_readTest 89 = .ok (.iconst 0, 1) := by decide +kernel
theorem dX7_readTest_90 : decode cX7_readTest 90 = .ok (.iload_n 1, 1) := by decide +kernel
theorem dX7_readTest_91 : decode cX7_readTest 91 = .ok (.bipush 9, 2) := by decide +kernel
theorem dX7_readTest_93 : decode cX7_readTest 93 = .ok (.ishl, 1) := by decide +kernel
theorem dX7_readTest_94 : decode cX7_readTest 94 = .ok (.iload_n 2, 1) := by decide +kernel
theorem dX7_readTest_95 : decode cX7_readTest 95 = .ok (.bipush 7, 2) := by decide +kernel
theorem dX7_readTest_97 : decode cX7_readTest 97 = .ok (.ishl, 1) := by decide +kernel
theorem dX7_readTest_98 : decode cX7_readTest 98 = .ok (.ior, 1) := by decide +kernel
theorem dX7_readTest_99 : decode cX7_readTest 99 = .ok (.iload_n 3, 1) := by decide +kernel
theorem dX7_readTest_100 : decode cX7_readTest 100 = .ok (.ior, 1) := by decide +kernel
theorem dX7_readTest_101 : decode cX7_readTest 101 = .ok (.invokevirtual 74, 3) := by decide +kernel
theorem dX7_readTest_104 : decode cX7_readTest 104 = .ok (.iconst 1, 1) := by decide +kernel
theorem dX7_readTest_105 : decode cX7_readTest 105 = .ok (.ireturn, 1) := by decide +kernel
theorem dX7_addStep_0 : decode cX7_addStep 0 = .ok (.aload_n 0, 1) := by decide +kernel
theorem dX7_addStep_1 : decode cX7_addStep 1 = .ok (.getfield 26, 3) := by decide +kernel
theorem dX7_addStep_4 : decode cX7_addStep 4 = .ok (.bipush 100, 2) := by decide +kernel
theorem dX7_addStep_6 : decode cX7_addStep 6 = .ok (.if_icmp .ge 28, 3) := by decide +kernel
theorem dX7_addStep_9 : decode cX7_addStep 9 = .ok (.aload_n 0, 1) := by decide +kernel
theorem dX7_addStep_10 : decode cX7_addStep 10 = .ok (.getfield 9, 3) := by decide +kernel
theorem dX7_addStep_13 : decode cX7_addStep 13 = .ok (.aload_n 0, 1) := by decide +kernel
theorem dX7_addStep_14 : decode cX7_addStep 14 = .ok (.getfield 26, 3) := by decide +kernel
theorem dX7_addStep_17 : decode cX7_addStep 17 = .ok (.iload_n 1, 1) := by decide +kernel
theorem dX7_addStep_18 : decode cX7_addStep 18 = .ok (.bipush 12, 2) := by decide +kernel
theorem dX7_addStep_20 : decode cX7_addStep 20 = .ok (.ishl, 1) := by decide +kernel
theorem dX7_addStep_21 : decode cX7_addStep 21 = .ok (.iload_n 2, 1) := by decide +kernel
theorem dX7_addStep_22 : decode cX7_addStep 22 = .ok (.ior, 1) := by decide +kernel
theorem dX7_addStep_23 : decode cX7_addStep 23 = .ok (.iastore, 1) := by decide +kernel
theorem dX7_addStep_24 : decode cX7_addStep 24 = .ok (.aload_n 0, 1) := by decide +kernel
theorem dX7_addStep_25 : decode cX7_addStep 25 = .ok (.dup, 1) := by decide +kernel
theorem dX7_addStep_26 : decode cX7_addStep 26 = .ok (.getfield 26, 3) := by decide +kernel
theorem dX7_addStep_29 : decode cX7_addStep 29 = .ok (.iconst 1, 1) := by decide +kernel
theorem dX7_addStep_30 : decode cX7_addStep 30 = .ok (.iadd, 1) := by decide +kernel
theorem dX7_addStep_31 : decode cX7_addStep 31 = .ok (.putfield 26, 3) := by decide +kernel
theorem dX7_addStep_34 : decode cX7_addStep 34 = .ok (.return_, 1) := by decide +kernel
theorem dX7_drawsBy_0 : decode cX7_drawsBy 0 = .ok (.iconst 0, 1) := by decide +kernel
theorem dX7_drawsBy_1 : decode cX7_drawsBy 1 = .ok (.istore_n 2, 1) := by decide +kernel
theorem dX7_drawsBy_2 : decode cX7_drawsBy 2 = .ok (.iconst 0, 1) := by decide +kernel
theorem dX7_drawsBy_3 : decode cX7_drawsBy 3 = .ok (.istore_n 3, 1) := by decide +kernel
theorem dX7_drawsBy_4 : decode cX7_drawsBy 4 = .ok (.iconst 0, 1) := by decide +kernel
theorem dX7_drawsBy_5 : decode cX7_drawsBy 5 = .ok (.istore 4, 2) := by decide +kernel
theorem dX7_drawsBy_7 : decode cX7_drawsBy 7 = .ok (.iload 4, 2) := by decide +kernel
theorem dX7_drawsBy_9 : decode cX7_drawsBy 9 = .ok (.aload_n 0, 1) := by decide +kernel
theorem dX7_drawsBy_10 : decode cX7_drawsBy 10 = .ok (.getfield 26, 3) := by decide +kernel
theorem dX7_drawsBy_13 : decode cX7_drawsBy 13 = .ok (.if_icmp .ge 140, 3) := by decide +kernel
theorem dX7_drawsBy_16 : decode cX7_drawsBy 16 = .ok (.iload_n 3, 1) := by decide +kernel
theorem dX7_drawsBy_17 : decode cX7_drawsBy 17 = .ok (.iconst 1, 1) := by decide +kernel
theorem dX7_drawsBy_18 : decode cX7_drawsBy 18 = .ok (.iand, 1) := by decide +kernel
theorem dX7_drawsBy_19 : decode cX7_drawsBy 19 = .ok (.istore 5, 2) := by decide +kernel
theorem dX7_drawsBy_21 : decode cX7_drawsBy 21 = .ok (.aload_n 0, 1) := by decide +kernel
theorem dX7_drawsBy_22 : decode cX7_drawsBy 22 = .ok (.getfield 9, 3) := by decide +kernel
theorem dX7_drawsBy_25 : decode cX7_drawsBy 25 = .ok (.iload 4, 2) := by decide +kernel
theorem dX7_drawsBy_27 : decode cX7_drawsBy 27 = .ok (.iaload, 1) := by decide +kernel
theorem dX7_drawsBy_28 : decode cX7_drawsBy 28 = .ok (.sipush 4095, 3) := by decide +kernel
theorem dX7_drawsBy_31 : decode cX7_drawsBy 31 = .ok (.iand, 1) := by decide +kernel
theorem dX7_drawsBy_32 : decode cX7_drawsBy 32 = .ok (.istore 6, 2) := by decide +kernel
theorem dX7_drawsBy_34 : decode cX7_drawsBy 34 = .ok (.aload_n 0, 1) := by decide +kernel
theorem dX7_drawsBy_35 : decode cX7_drawsBy 35 = .ok (.getfield 9, 3) := by decide +kernel
theorem dX7_drawsBy_38 : decode cX7_drawsBy 38 = .ok (.iload 4, 2) := by decide +kernel
theorem dX7_drawsBy_40 : decode cX7_drawsBy 40 = .ok (.iaload, 1) := by decide +kernel
theorem dX7_drawsBy_41 : decode cX7_drawsBy 41 = .ok (.bipush 12, 2) := by decide +kernel
theorem dX7_drawsBy_43 : decode cX7_drawsBy 43 = .ok (.ishr, 1) := by decide +kernel
theorem dX7_drawsBy_44 : decode cX7_drawsBy 44 = .ok (.tableswitch 93 0 4 #[36, 50, 57, 70, 80], 36) := by decide +kernel
theorem dX7_drawsBy_80 : decode cX7_drawsBy 80 = .ok (.iload_n 3, 1) := by decide +kernel
theorem dX7_drawsBy_81 : decode cX7_drawsBy 81 = .ok (.iconst 1, 1) := by decide +kernel
theorem dX7_drawsBy_82 : decode cX7_drawsBy 82 = .ok (.ishl, 1) := by decide +kernel
theorem dX7_drawsBy_83 : decode cX7_drawsBy 83 = .ok (.iload 6, 2) := by decide +kernel
theorem dX7_drawsBy_85 : decode cX7_drawsBy 85 = .ok (.aload_n 1, 1) := by decide +kernel
theorem dX7_drawsBy_86 : decode cX7_drawsBy 86 = .ok (.invokestatic 96, 3) := by decide +kernel
theorem dX7_drawsBy_89 : decode cX7_drawsBy 89 = .ok (.ior, 1) := by decide +kernel
theorem dX7_drawsBy_90 : decode cX7_drawsBy 90 = .ok (.istore_n 3, 1) := by decide +kernel
theorem dX7_drawsBy_91 : decode cX7_drawsBy 91 = .ok (.goto 56, 3) := by decide +kernel
theorem dX7_drawsBy_94 : decode cX7_drawsBy 94 = .ok (.iload_n 3, 1) := by decide +kernel
theorem dX7_drawsBy_95 : decode cX7_drawsBy 95 = .ok (.iconst 1, 1) := by decide +kernel
theorem dX7_drawsBy_96 : decode cX7_drawsBy 96 = .ok (.ixor, 1) := by decide +kernel
theorem dX7_drawsBy_97 : decode cX7_drawsBy 97 = .ok (.istore_n 3, 1) := by decide +kernel
theorem dX7_drawsBy_98 : decode cX7_drawsBy 98 = .ok (.goto 49, 3) := by decide +kernel
theorem dX7_drawsBy_101 : decode cX7_drawsBy 101 = .ok (.iload_n 3, 1) := by decide +kernel
theorem dX7_drawsBy_102 : decode cX7_drawsBy 102 = .ok (.iconst 1, 1) := by decide +kernel
theorem dX7_drawsBy_103 : decode cX7_drawsBy 103 = .ok (.ishr, 1) := by decide +kernel
theorem dX7_drawsBy_104 : decode cX7_drawsBy 104 = .ok (.bipush (-2), 2) := by decide +kernel
theorem dX7_drawsBy_106 : decode cX7_drawsBy 106 = .ok (.iload 5, 2) := by decide +kernel
theorem dX7_drawsBy_108 : decode cX7_drawsBy 108 = .ok (.ior, 1) := by decide +kernel
theorem dX7_drawsBy_109 : decode cX7_drawsBy 109 = .ok (.iand, 1) := by decide +kernel
theorem dX7_drawsBy_110 : decode cX7_drawsBy 110 = .ok (.istore_n 3, 1) := by decide +kernel
theorem dX7_drawsBy_111 : decode cX7_drawsBy 111 = .ok (.goto 36, 3) := by decide +kernel
theorem dX7_drawsBy_114 : decode cX7_drawsBy 114 = .ok (.iload_n 3, 1) := by decide +kernel
theorem dX7_drawsBy_115 : decode cX7_drawsBy 115 = .ok (.iconst 1, 1) := by decide +kernel
theorem dX7_drawsBy_116 : decode cX7_drawsBy 116 = .ok (.ishr, 1) := by decide +kernel
theorem dX7_drawsBy_117 : decode cX7_drawsBy 117 = .ok (.iload 5, 2) := by decide +kernel
theorem dX7_drawsBy_119 : decode cX7_drawsBy 119 = .ok (.ior, 1) := by decide +kernel
theorem dX7_drawsBy_120 : decode cX7_drawsBy 120 = .ok (.istore_n 3, 1) := by decide +kernel
theorem dX7_drawsBy_121 : decode cX7_drawsBy 121 = .ok (.goto 26, 3) := by decide +kernel
theorem dX7_drawsBy_124 : decode cX7_drawsBy 124 = .ok (.iload_n 2, 1) := by decide +kernel
theorem dX7_drawsBy_125 : decode cX7_drawsBy 125 = .ok (.iload 5, 2) := by decide +kernel
theorem dX7_drawsBy_127 : decode cX7_drawsBy 127 = .ok (.iload 6, 2) := by decide +kernel
theorem dX7_drawsBy_129 : decode cX7_drawsBy 129 = .ok (.imul, 1) := by decide +kernel
theorem dX7_drawsBy_130 : decode cX7_drawsBy 130 = .ok (.iadd, 1) := by decide +kernel
theorem dX7_drawsBy_131 : decode cX7_drawsBy 131 = .ok (.istore_n 2, 1) := by decide +kernel
theorem dX7_drawsBy_132 : decode cX7_drawsBy 132 = .ok (.iconst 0, 1) := by decide +kernel
theorem dX7_drawsBy_133 : decode cX7_drawsBy 133 = .ok (.istore_n 3, 1) := by decide +kernel
theorem dX7_drawsBy_134 : decode cX7_drawsBy 134 = .ok (.goto 13, 3) := by decide +kernel
theorem dX7_drawsBy_137 : decode cX7_drawsBy 137 = .ok (.iload_n 2, 1) := by decide +kernel
theorem dX7_drawsBy_138 : decode cX7_drawsBy 138 = .ok (.iload 5, 2) := by decide +kernel
theorem dX7_drawsBy_140 : decode cX7_drawsBy 140 = .ok (.iload 6, 2) := by decide +kernel
theorem dX7_drawsBy_142 : decode cX7_drawsBy 142 = .ok (.imul, 1) := by decide +kernel
theorem dX7_drawsBy_143 : decode cX7_drawsBy 143 = .ok (.isub, 1) := by decide +kernel
theorem dX7_drawsBy_144 : decode cX7_drawsBy 144 = .ok (.istore_n 2, 1) := by decide +kernel
theorem dX7_drawsBy_145 : decode cX7_drawsBy 145 = .ok (.iconst 0, 1) := by decide +kernel
theorem dX7_drawsBy_146 : decode cX7_drawsBy 146 = .ok (.istore_n 3, 1) := by decide +kernel
theorem dX7_drawsBy_147 : decode cX7_drawsBy 147 = .ok (.iinc 4 1, 3) := by decide +kernel
theorem dX7_drawsBy_150 : decode cX7_drawsBy 150 = .ok (.goto (-143), 3) := by decide +kernel
theorem dX7_drawsBy_153 : decode cX7_drawsBy 153 = .ok (.iload_n 2, 1) := by decide +kernel
theorem dX7_drawsBy_154 : decode cX7_drawsBy 154 = .ok (.ireturn, 1) := by decide +kernel
theorem dX7_holds_0 : decode cX7_holds 0 = .ok (.aload_n 1, 1) := by decide +kernel
theorem dX7_holds_1 : decode cX7_holds 1 = .ok (.iload_n 0, 1) := by decide +kernel
theorem dX7_holds_2 : decode cX7_holds 2 = .ok (.bipush 9, 2) := by decide +kernel
theorem dX7_holds_4 : decode cX7_holds 4 = .ok (.ishr, 1) := by decide +kernel
theorem dX7_holds_5 : decode cX7_holds 5 = .ok (.iaload, 1) := by decide +kernel
theorem dX7_holds_6 : decode cX7_holds 6 = .ok (.istore_n 2, 1) := by decide +kernel
theorem dX7_holds_7 : decode cX7_holds 7 = .ok (.iload_n 0, 1) := by decide +kernel
theorem dX7_holds_8 : decode cX7_holds 8 = .ok (.bipush 127, 2) := by decide +kernel
theorem dX7_holds_10 : decode cX7_holds 10 = .ok (.iand, 1) := by decide +kernel
theorem dX7_holds_11 : decode cX7_holds 11 = .ok (.istore_n 3, 1) := by decide +kernel
theorem dX7_holds_12 : decode cX7_holds 12 = .ok (.iload_n 0, 1) := by decide +kernel
theorem dX7_holds_13 : decode cX7_holds 13 = .ok (.bipush 7, 2) := by decide +kernel
theorem dX7_holds_15 : decode cX7_holds 15 = .ok (.ishr, 1) := by decide +kernel
theorem dX7_holds_16 : decode cX7_holds 16 = .ok (.iconst 3, 1) := by decide +kernel
theorem dX7_holds_17 : decode cX7_holds 17 = .ok (.iand, 1) := by decide +kernel
theorem dX7_holds_18 : decode cX7_holds 18 = .ok (.lookupswitch 56 #[(0, 26), (1, 41)], 26) := by decide +kernel
theorem dX7_holds_44 : decode cX7_holds 44 = .ok (.iload_n 2, 1) := by decide +kernel
theorem dX7_holds_45 : decode cX7_holds 45 = .ok (.iload_n 3, 1) := by decide +kernel
theorem dX7_holds_46 : decode cX7_holds 46 = .ok (.if_icmp .ge 7, 3) := by decide +kernel
theorem dX7_holds_49 : decode cX7_holds 49 = .ok (.iconst 1, 1) := by decide +kernel
theorem dX7_holds_50 : decode cX7_holds 50 = .ok (.goto 4, 3) := by decide +kernel
theorem dX7_holds_53 : decode cX7_holds 53 = .ok (.iconst 0, 1) := by decide +kernel
theorem dX7_holds_54 : decode cX7_holds 54 = .ok (.istore 4, 2) := by decide +kernel
theorem dX7_holds_56 : decode cX7_holds 56 = .ok (.goto 30, 3) := by decide +kernel
theorem dX7_holds_59 : decode cX7_holds 59 = .ok (.iload_n 2, 1) := by decide +kernel
theorem dX7_holds_60 : decode cX7_holds 60 = .ok (.iload_n 3, 1) := by decide +kernel
theorem dX7_holds_61 : decode cX7_holds 61 = .ok (.if_icmp .ne 7, 3) := by decide +kernel
theorem dX7_holds_64 : decode cX7_holds 64 = .ok (.iconst 1, 1) := by decide +kernel
theorem dX7_holds_65 : decode cX7_holds 65 = .ok (.goto 4, 3) := by decide +kernel
theorem dX7_holds_68 : decode cX7_holds 68 = .ok (.iconst 0, 1) := by decide +kernel
theorem dX7_holds_69 : decode cX7_holds 69 = .ok (.istore 4, 2) := by decide +kernel
theorem dX7_holds_71 : decode cX7_holds 71 = .ok (.goto 15, 3) := by decide +kernel
theorem dX7_holds_74 : decode cX7_holds 74 = .ok (.iload_n 2, 1) := by decide +kernel
theorem dX7_holds_75 : decode cX7_holds 75 = .ok (.iload_n 3, 1) := by decide +kernel
theorem dX7_holds_76 : decode cX7_holds 76 = .ok (.if_icmp .le 7, 3) := by decide +kernel
theorem dX7_holds_79 : decode cX7_holds 79 = .ok (.iconst 1, 1) := by decide +kernel
theorem dX7_holds_80 : decode cX7_holds 80 = .ok (.goto 4, 3) := by decide +kernel
theorem dX7_holds_83 : decode cX7_holds 83 = .ok (.iconst 0, 1) := by decide +kernel
theorem dX7_holds_84 : decode cX7_holds 84 = .ok (.istore 4, 2) := by decide +kernel
theorem dX7_holds_86 : decode cX7_holds 86 = .ok (.iload 4, 2) := by decide +kernel
theorem dX7_holds_88 : decode cX7_holds 88 = .ok (.ifCond .eq 7, 3) := by decide +kernel
theorem dX7_holds_91 : decode cX7_holds 91 = .ok (.iconst 1, 1) := by decide +kernel
theorem dX7_holds_92 : decode cX7_holds 92 = .ok (.goto 4, 3) := by decide +kernel
theorem dX7_holds_95 : decode cX7_holds 95 = .ok (.iconst 0, 1) := by decide +kernel
theorem dX7_holds_96 : decode cX7_holds 96 = .ok (.ireturn, 1) := by decide +kernel
theorem dX8_init_0 : decode cX8_init 0 = .ok (.aload_n 0, 1) := by decide +kernel
theorem dX8_init_1 : decode cX8_init 1 = .ok (.invokespecial 3, 3) := by decide +kernel
theorem dX8_init_4 : decode cX8_init 4 = .ok (.return_, 1) := by decide +kernel
theorem dX8_pullBy_0 : decode cX8_pullBy 0 = .ok (.aload_n 2, 1) := by decide +kernel
theorem dX8_pullBy_1 : decode cX8_pullBy 1 = .ok (.getfield 9, 3) := by decide +kernel
theorem dX8_pullBy_4 : decode cX8_pullBy 4 = .ok (.iload_n 3, 1) := by decide +kernel
theorem dX8_pullBy_5 : decode cX8_pullBy 5 = .ok (.iconst 4, 1) := by decide +kernel
theorem dX8_pullBy_6 : decode cX8_pullBy 6 = .ok (.imul, 1) := by decide +kernel
theorem dX8_pullBy_7 : decode cX8_pullBy 7 = .ok (.aload_n 2, 1) := by decide +kernel
theorem dX8_pullBy_8 : decode cX8_pullBy 8 = .ok (.getfield 15, 3) := by decide +kernel
theorem dX8_pullBy_11 : decode cX8_pullBy 11 = .ok (.iconst 4, 1) := by decide +kernel
theorem dX8_pullBy_12 : decode cX8_pullBy 12 = .ok (.irem, 1) := by decide +kernel
theorem dX8_pullBy_13 : decode cX8_pullBy 13 = .ok (.iadd, 1) := by decide +kernel
theorem dX8_pullBy_14 : decode cX8_pullBy 14 = .ok (.iaload, 1) := by decide +kernel
theorem dX8_pullBy_15 : decode cX8_pullBy 15 = .ok (.istore 5, 2) := by decide +kernel
theorem dX8_pullBy_17 : decode cX8_pullBy 17 = .ok (.aload_n 0, 1) := by decide +kernel
theorem dX8_pullBy_18 : decode cX8_pullBy 18 = .ok (.iload_n 1, 1) := by decide +kernel
theorem dX8_pullBy_19 : decode cX8_pullBy 19 = .ok (.aload_n 2, 1) := by decide +kernel
theorem dX8_pullBy_20 : decode cX8_pullBy 20 = .ok (.iload_n 3, 1) := by decide +kernel
theorem dX8_pullBy_21 : decode cX8_pullBy 21 = .ok (.iload 4, 2) := by decide +kernel
theorem dX8_pullBy_23 : decode cX8_pullBy 23 = .ok (.invokespecial 19, 3) := by decide +kernel
theorem dX8_pullBy_26 : decode cX8_pullBy 26 = .ok (.iload 5, 2) := by decide +kernel
theorem dX8_pullBy_28 : decode cX8_pullBy 28 = .ok (.iadd, 1) := by decide +kernel
theorem dX8_pullBy_29 : decode cX8_pullBy 29 = .ok (.ireturn, 1) := by decide +kernel
theorem dX8_walks_0 : decode cX8_walks 0 = .ok (.aload_n 1, 1) := by decide +kernel
theorem dX8_walks_1 : decode cX8_walks 1 = .ok (.bipush 70, 2) := by decide +kernel
theorem dX8_walks_3 : decode cX8_walks 3 = .ok (.invokevirtual 23, 3) := by decide +kernel
theorem dX8_walks_6 : decode cX8_walks 6 = .ok (.aload_n 0, 1) := by decide +kernel
theorem dX8_walks_7 : decode cX8_walks 7 = .ok (.aload_n 1, 1) := by decide +kernel
theorem dX8_walks_8 : decode cX8_walks 8 = .ok (.iload_n 2, 1) := by decide +kernel
theorem dX8_walks_9 : decode cX8_walks 9 = .ok (.invokespecial 29, 3) := by decide +kernel
theorem dX8_walks_12 : decode cX8_walks 12 = .ok (.aload_n 0, 1) := by decide +kernel
theorem dX8_walks_13 : decode cX8_walks 13 = .ok (.aload_n 1, 1) := by decide +kernel
theorem dX8_walks_14 : decode cX8_walks 14 = .ok (.iconst 2, 1) := by decide +kernel
theorem dX8_walks_15 : decode cX8_walks 15 = .ok (.invokespecial 33, 3) := by decide +kernel
theorem dX8_walks_18 : decode cX8_walks 18 = .ok (.iadd, 1) := by decide +kernel
theorem dX8_walks_19 : decode cX8_walks 19 = .ok (.ireturn, 1) := by decide +kernel
theorem dX8_bows_0 : decode cX8_bows 0 = .ok (.aload_n 1, 1) := by decide +kernel
theorem dX8_bows_1 : decode cX8_bows 1 = .ok (.bipush 71, 2) := by decide +kernel
theorem dX8_bows_3 : decode cX8_bows 3 = .ok (.invokevirtual 23, 3) := by decide +kernel
theorem dX8_bows_6 : decode cX8_bows 6 = .ok (.aload_n 0, 1) := by decide +kernel
theorem dX8_bows_7 : decode cX8_bows 7 = .ok (.aload_n 1, 1) := by decide +kernel
theorem dX8_bows_8 : decode cX8_bows 8 = .ok (.iload_n 2, 1) := by decide +kernel
theorem dX8_bows_9 : decode cX8_bows 9 = .ok (.invokespecial 33, 3) := by decide +kernel
theorem dX8_bows_12 : decode cX8_bows 12 = .ok (.aload_n 1, 1) := by decide +kernel
theorem dX8_bows_13 : decode cX8_bows 13 = .ok (.getfield 36, 3) := by decide +kernel
theorem dX8_bows_16 : decode cX8_bows 16 = .ok (.ixor, 1) := by decide +kernel
theorem dX8_bows_17 : decode cX8_bows 17 = .ok (.ireturn, 1) := by decide +kernel
theorem dX9_init_0 : decode cX9_init 0 = .ok (.aload_n 0, 1) := by decide +kernel
theorem dX9_init_1 : decode cX9_init 1 = .ok (.invokespecial 1, 3) := by decide +kernel
theorem dX9_init_4 : decode cX9_init 4 = .ok (.return_, 1) := by decide +kernel
theorem dX9_tread_0 : decode cX9_tread 0 = .ok (.iconst 3, 1) := by decide +kernel
theorem dX9_tread_1 : decode cX9_tread 1 = .ok (.ireturn, 1) := by decide +kernel
theorem dX9_walks_0 : decode cX9_walks 0 = .ok (.aload_n 1, 1) := by decide +kernel
theorem dX9_walks_1 : decode cX9_walks 1 = .ok (.bipush 20, 2) := by decide +kernel
theorem dX9_walks_3 : decode cX9_walks 3 = .ok (.invokevirtual 7, 3) := by decide +kernel
theorem dX9_walks_6 : decode cX9_walks 6 = .ok (.aload_n 0, 1) := by decide +kernel
theorem dX9_walks_7 : decode cX9_walks 7 = .ok (.aload_n 1, 1) := by decide +kernel
theorem dX9_walks_8 : decode cX9_walks 8 = .ok (.iload_n 2, 1) := by decide +kernel
theorem dX9_walks_9 : decode cX9_walks 9 = .ok (.invokespecial 13, 3) := by decide +kernel
theorem dX9_walks_12 : decode cX9_walks 12 = .ok (.bipush 6, 2) := by decide +kernel
theorem dX9_walks_14 : decode cX9_walks 14 = .ok (.ixor, 1) := by decide +kernel
theorem dX9_walks_15 : decode cX9_walks 15 = .ok (.ireturn, 1) := by decide +kernel
theorem dX10_init_0 : decode cX10_init 0 = .ok (.aload_n 0, 1) := by decide +kernel
theorem dX10_init_1 : decode cX10_init 1 = .ok (.invokespecial 1, 3) := by decide +kernel
theorem dX10_init_4 : decode cX10_init 4 = .ok (.return_, 1) := by decide +kernel
theorem dX10_tread_0 : decode cX10_tread 0 = .ok (.iconst 2, 1) := by decide +kernel
theorem dX10_tread_1 : decode cX10_tread 1 = .ok (.ireturn, 1) := by decide +kernel
theorem dX10_pullBy_0 : decode cX10_pullBy 0 = .ok (.iload_n 1, 1) := by decide +kernel
theorem dX10_pullBy_1 : decode cX10_pullBy 1 = .ok (.ireturn, 1) := by decide +kernel
theorem dX10_bows_0 : decode cX10_bows 0 = .ok (.aload_n 1, 1) := by decide +kernel
theorem dX10_bows_1 : decode cX10_bows 1 = .ok (.bipush 10, 2) := by decide +kernel
theorem dX10_bows_3 : decode cX10_bows 3 = .ok (.invokevirtual 7, 3) := by decide +kernel
theorem dX10_bows_6 : decode cX10_bows 6 = .ok (.iload_n 2, 1) := by decide +kernel
theorem dX10_bows_7 : decode cX10_bows 7 = .ok (.aload_n 1, 1) := by decide +kernel
theorem dX10_bows_8 : decode cX10_bows 8 = .ok (.getfield 13, 3) := by decide +kernel
theorem dX10_bows_11 : decode cX10_bows 11 = .ok (.iadd, 1) := by decide +kernel
theorem dX10_bows_12 : decode cX10_bows 12 = .ok (.ireturn, 1) := by decide +kernel
theorem dX10_walks_0 : decode cX10_walks 0 = .ok (.aload_n 1, 1) := by decide +kernel
theorem dX10_walks_1 : decode cX10_walks 1 = .ok (.bipush 11, 2) := by decide +kernel
theorem dX10_walks_3 : decode cX10_walks 3 = .ok (.invokevirtual 7, 3) := by decide +kernel
theorem dX10_walks_6 : decode cX10_walks 6 = .ok (.aload_n 0, 1) := by decide +kernel
theorem dX10_walks_7 : decode cX10_walks 7 = .ok (.aload_n 1, 1) := by decide +kernel
theorem dX10_walks_8 : decode cX10_walks 8 = .ok (.iload_n 2, 1) := by decide +kernel
theorem dX10_walks_9 : decode cX10_walks 9 = .ok (.invokevirtual 17, 3) := by decide +kernel
theorem dX10_walks_12 : decode cX10_walks 12 = .ok (.aload_n 1, 1) := by decide +kernel
theorem dX10_walks_13 : decode cX10_walks 13 = .ok (.getfield 23, 3) := by decide +kernel
theorem dX10_walks_16 : decode cX10_walks 16 = .ok (.isub, 1) := by decide +kernel
theorem dX10_walks_17 : decode cX10_walks 17 = .ok (.ireturn, 1) := by decide +kernel
theorem dX10_tells_0 : decode cX10_tells 0 = .ok (.aload_n 1, 1) := by decide +kernel
theorem dX10_tells_1 : decode cX10_tells 1 = .ok (.bipush 12, 2) := by decide +kernel
theorem dX10_tells_3 : decode cX10_tells 3 = .ok (.invokevirtual 7, 3) := by decide +kernel
theorem dX10_tells_6 : decode cX10_tells 6 = .ok (.aload_n 0, 1) := by decide +kernel
theorem dX10_tells_7 : decode cX10_tells 7 = .ok (.aload_n 1, 1) := by decide +kernel
theorem dX10_tells_8 : decode cX10_tells 8 = .ok (.iload_n 2, 1) := by decide +kernel
theorem dX10_tells_9 : decode cX10_tells 9 = .ok (.invokevirtual 26, 3) := by decide +kernel
theorem dX10_tells_12 : decode cX10_tells 12 = .ok (.iconst 2, 1) := by decide +kernel
theorem dX10_tells_13 : decode cX10_tells 13 = .ok (.imul, 1) := by decide +kernel
theorem dX10_tells_14 : decode cX10_tells 14 = .ok (.ireturn, 1) := by decide +kernel
end
section
theorem dX11_init_0 : decode cX11_init 0 = .ok (.aload_n 0, 1) := by decide +kernel
theorem dX11_init_1 : decode cX11_init 1 = .ok (.invokespecial 5, 3) := by decide +kernel
theorem dX11_init_4 : decode cX11_init 4 = .ok (.aload_n 0, 1) := by decide +kernel
theorem dX11_init_5 : decode cX11_init 5 = .ok (.new 11, 3) := by decide +kernel
theorem dX11_init_8 : decode cX11_init 8 = .ok (.dup, 1) := by decide +kernel
theorem dX11_init_9 : decode cX11_init 9 = .ok (.iconst 5, 1) := by decide +kernel
theorem dX11_init_10 : decode cX11_init 10 = .ok (.invokespecial 13, 3) := by decide +kernel
theorem dX11_init_13 : decode cX11_init 13 = .ok (.putfield 16, 3) := by decide +kernel
theorem dX11_init_16 : decode cX11_init 16 = .ok (.aload_n 0, 1) := by decide +kernel
theorem dX11_init_17 : decode cX11_init 17 = .ok (.new 11, 3) := by decide +kernel
theorem dX11_init_20 : decode cX11_init 20 = .ok (.dup, 1) := by decide +kernel
theorem dX11_init_21 : decode cX11_init 21 = .ok (.bipush 10, 2) := by decide +kernel
theorem dX11_init_23 : decode cX11_init 23 = .ok (.invokespecial 13, 3) := by decide +kernel
theorem dX11_init_26 : decode cX11_init 26 = .ok (.putfield 20, 3) := by decide +kernel
theorem dX11_init_29 : decode cX11_init 29 = .ok (.aload_n 0, 1) := by decide +kernel
theorem dX11_init_30 : decode cX11_init 30 = .ok (.new 11, 3) := by decide +kernel
theorem dX11_init_33 : decode cX11_init 33 = .ok (.dup, 1) := by decide +kernel
theorem dX11_init_34 : decode cX11_init 34 = .ok (.bipush 8, 2) := by decide +kernel
theorem dX11_init_36 : decode cX11_init 36 = .ok (.invokespecial 13, 3) := by decide +kernel
theorem dX11_init_39 : decode cX11_init 39 = .ok (.putfield 23, 3) := by decide +kernel
theorem dX11_init_42 : decode cX11_init 42 = .ok (.aload_n 0, 1) := by decide +kernel
theorem dX11_init_43 : decode cX11_init 43 = .ok (.new 11, 3) := by decide +kernel
theorem dX11_init_46 : decode cX11_init 46 = .ok (.dup, 1) := by decide +kernel
theorem dX11_init_47 : decode cX11_init 47 = .ok (.iconst 5, 1) := by decide +kernel
theorem dX11_init_48 : decode cX11_init 48 = .ok (.invokespecial 13, 3) := by decide +kernel
theorem dX11_init_51 : decode cX11_init 51 = .ok (.putfield 26, 3) := by decide +kernel
theorem dX11_init_54 : decode cX11_init 54 = .ok (.aload_n 0, 1) := by decide +kernel
theorem dX11_init_55 : decode cX11_init 55 = .ok (.new 11, 3) := by decide +kernel
theorem dX11_init_58 : decode cX11_init 58 = .ok (.dup, 1) := by decide +kernel
theorem dX11_init_59 : decode cX11_init 59 = .ok (.bipush 10, 2) := by decide +kernel
theorem dX11_init_61 : decode cX11_init 61 = .ok (.invokespecial 13, 3) := by decide +kernel
theorem dX11_init_64 : decode cX11_init 64 = .ok (.putfield 29, 3) := by decide +kernel
theorem dX11_init_67 : decode cX11_init 67 = .ok (.aload_n 0, 1) := by decide +kernel
theorem dX11_init_68 : decode cX11_init 68 = .ok (.new 11, 3) := by decide +kernel
theorem dX11_init_71 : decode cX11_init 71 = .ok (.dup, 1) := by decide +kernel
theorem dX11_init_72 : decode cX11_init 72 = .ok (.bipush 8, 2) := by decide +kernel
theorem dX11_init_74 : decode cX11_init 74 = .ok (.invokespecial 13, 3) := by decide +kernel
theorem dX11_init_77 : decode cX11_init 77 = .ok (.putfield 32, 3) := by decide +kernel
theorem dX11_init_80 : decode cX11_init 80 = .ok (.aload_n 0, 1) := by decide +kernel
theorem dX11_init_81 : decode cX11_init 81 = .ok (.bipush 100, 2) := by decide +kernel
theorem dX11_init_83 : decode cX11_init 83 = .ok (.newarray .byte, 2) := by decide +kernel
theorem dX11_init_85 : decode cX11_init 85 = .ok (.putfield 35, 3) := by decide +kernel
theorem dX11_init_88 : decode cX11_init 88 = .ok (.aload_n 0, 1) := by decide +kernel
theorem dX11_init_89 : decode cX11_init 89 = .ok (.new 39, 3) := by decide +kernel
theorem dX11_init_92 : decode cX11_init 92 = .ok (.dup, 1) := by decide +kernel
theorem dX11_init_93 : decode cX11_init 93 = .ok (.invokespecial 41, 3) := by decide +kernel
theorem dX11_init_96 : decode cX11_init 96 = .ok (.putfield 42, 3) := by decide +kernel
theorem dX11_init_99 : decode cX11_init 99 = .ok (.aload_n 0, 1) := by decide +kernel
theorem dX11_init_100 : decode cX11_init 100 = .ok (.new 46, 3) := by decide +kernel
theorem dX11_init_103 : decode cX11_init 103 = .ok (.dup, 1) := by decide +kernel
theorem dX11_init_104 : decode cX11_init 104 = .ok (.invokespecial 48, 3) := by decide +kernel
theorem dX11_init_107 : decode cX11_init 107 = .ok (.putfield 49, 3) := by decide +kernel
theorem dX11_init_110 : decode cX11_init 110 = .ok (.aload_n 0, 1) := by decide +kernel
theorem dX11_init_111 : decode cX11_init 111 = .ok (.bipush 6, 2) := by decide +kernel
theorem dX11_init_113 : decode cX11_init 113 = .ok (.newarray .int, 2) := by decide +kernel
theorem dX11_init_115 : decode cX11_init 115 = .ok (.putfield 53, 3) := by decide +kernel
theorem dX11_init_118 : decode cX11_init 118 = .ok (.aload_n 0, 1) := by decide +kernel
theorem dX11_init_119 : decode cX11_init 119 = .ok (.bipush 6, 2) := by decide +kernel
theorem dX11_init_121 : decode cX11_init 121 = .ok (.newarray .int, 2) := by decide +kernel
theorem dX11_init_123 : decode cX11_init 123 = .ok (.putfield 57, 3) := by decide +kernel
theorem dX11_init_126 : decode cX11_init 126 = .ok (.aload_n 0, 1) := by decide +kernel
theorem dX11_init_127 : decode cX11_init 127 = .ok (.sipush 360, 3) := by decide +kernel
theorem dX11_init_130 : decode cX11_init 130 = .ok (.newarray .long, 2) := by decide +kernel
theorem dX11_init_132 : decode cX11_init 132 = .ok (.putfield 60, 3) := by decide +kernel
theorem dX11_init_135 : decode cX11_init 135 = .ok (.bipush 7, 2) := by decide +kernel
theorem dX11_init_137 : decode cX11_init 137 = .ok (.anewarray 64, 3) := by decide +kernel
theorem dX11_init_140 : decode cX11_init 140 = .ok (.dup, 1) := by decide +kernel
theorem dX11_init_141 : decode cX11_init 141 = .ok (.iconst 0, 1) := by decide +kernel
theorem dX11_init_142 : decode cX11_init 142 = .ok (.new 64, 3) := by decide +kernel
theorem dX11_init_145 : decode cX11_init 145 = .ok (.dup, 1) := by decide +kernel
theorem dX11_init_146 : decode cX11_init 146 = .ok (.invokespecial 66, 3) := by decide +kernel
theorem dX11_init_149 : decode cX11_init 149 = .ok (.aastore, 1) := by decide +kernel
theorem dX11_init_150 : decode cX11_init 150 = .ok (.dup, 1) := by decide +kernel
theorem dX11_init_151 : decode cX11_init 151 = .ok (.iconst 1, 1) := by decide +kernel
theorem dX11_init_152 : decode cX11_init 152 = .ok (.new 67, 3) := by decide +kernel
theorem dX11_init_155 : decode cX11_init 155 = .ok (.dup, 1) := by decide +kernel
theorem dX11_init_156 : decode cX11_init 156 = .ok (.invokespecial 69, 3) := by decide +kernel
theorem dX11_init_159 : decode cX11_init 159 = .ok (.aastore, 1) := by decide +kernel
theorem dX11_init_160 : decode cX11_init 160 = .ok (.dup, 1) := by decide +kernel
theorem dX11_init_161 : decode cX11_init 161 = .ok (.iconst 2, 1) := by decide +kernel
theorem dX11_init_162 : decode cX11_init 162 = .ok (.new 70, 3) := by decide +kernel
theorem dX11_init_165 : decode cX11_init 165 = .ok (.dup, 1) := by decide +kernel
theorem dX11_init_166 : decode cX11_init 166 = .ok (.invokespecial 72, 3) := by decide +kernel
theorem dX11_init_169 : decode cX11_init 169 = .ok (.aastore, 1) := by decide +kernel
theorem dX11_init_170 : decode cX11_init 170 = .ok (.dup, 1) := by decide +kernel
theorem dX11_init_171 : decode cX11_init 171 = .ok (.iconst 3, 1) := by decide +kernel
theorem dX11_init_172 : decode cX11_init 172 = .ok (.new 73, 3) := by decide +kernel
theorem dX11_init_175 : decode cX11_init 175 = .ok (.dup, 1) := by decide +kernel
theorem dX11_init_176 : decode cX11_init 176 = .ok (.invokespecial 75, 3) := by decide +kernel
theorem dX11_init_179 : decode cX11_init 179 = .ok (.aastore, 1) := by decide +kernel
theorem dX11_init_180 : decode cX11_init 180 = .ok (.dup, 1) := by decide +kernel
theorem dX11_init_181 : decode cX11_init 181 = .ok (.iconst 4, 1) := by decide +kernel
theorem dX11_init_182 : decode cX11_init 182 = .ok (.new 76, 3) := by decide +kernel
theorem dX11_init_185 : decode cX11_init 185 = .ok (.dup, 1) := by decide +kernel
theorem dX11_init_186 : decode cX11_init 186 = .ok (.invokespecial 78, 3) := by decide +kernel
theorem dX11_init_189 : decode cX11_init 189 = .ok (.aastore, 1) := by decide +kernel
theorem dX11_init_190 : decode cX11_init 190 = .ok (.dup, 1) := by decide +kernel
theorem dX11_init_191 : decode cX11_init 191 = .ok (.iconst 5, 1) := by decide +kernel
theorem dX11_init_192 : decode cX11_init 192 = .ok (.new 79, 3) := by decide +kernel
theorem dX11_init_195 : decode cX11_init 195 = .ok (.dup, 1) := by decide +kernel
theorem dX11_init_196 : decode cX11_init 196 = .ok (.invokespecial 81, 3) := by decide +kernel
theorem dX11_init_199 : decode cX11_init 199 = .ok (.aastore, 1) := by decide +kernel
theorem dX11_init_200 : decode cX11_init 200 = .ok (.dup, 1) := by decide +kernel
theorem dX11_init_201 : decode cX11_init 201 = .ok (.bipush 6, 2) := by decide +kernel
theorem dX11_init_203 : decode cX11_init 203 = .ok (.new 82, 3) := by decide +kernel
theorem dX11_init_206 : decode cX11_init 206 = .ok (.dup, 1) := by decide +kernel
theorem dX11_init_207 : decode cX11_init 207 = .ok (.invokespecial 84, 3) := by decide +kernel
theorem dX11_init_210 : decode cX11_init 210 = .ok (.aastore, 1) := by decide +kernel
theorem dX11_init_211 : decode cX11_init 211 = .ok (.astore_n 1, 1) := by decide +kernel
theorem dX11_init_212 : decode cX11_init 212 = .ok (.new 39, 3) := by decide +kernel
theorem dX11_init_215 : decode cX11_init 215 = .ok (.dup, 1) := by decide +kernel
theorem dX11_init_216 : decode cX11_init 216 = .ok (.invokespecial 41, 3) := by decide +kernel
theorem dX11_init_219 : decode cX11_init 219 = .ok (.astore_n 2, 1) := by decide +kernel
theorem dX11_init_220 : decode cX11_init 220 = .ok (.aload_n 0, 1) := by decide +kernel
theorem dX11_init_221 : decode cX11_init 221 = .ok (.new 85, 3) := by decide +kernel
theorem dX11_init_224 : decode cX11_init 224 = .ok (.dup, 1) := by decide +kernel
theorem dX11_init_225 : decode cX11_init 225 = .ok (.aload_n 1, 1) := by decide +kernel
theorem dX11_init_226 : decode cX11_init 226 = .ok (.aload_n 2, 1) := by decide +kernel
theorem dX11_init_227 : decode cX11_init 227 = .ok (.invokespecial 87, 3) := by decide +kernel
theorem dX11_init_230 : decode cX11_init 230 = .ok (.putfield 90, 3) := by decide +kernel
theorem dX11_init_233 : decode cX11_init 233 = .ok (.aload_n 0, 1) := by decide +kernel
theorem dX11_init_234 : decode cX11_init 234 = .ok (.new 85, 3) := by decide +kernel
theorem dX11_init_237 : decode cX11_init 237 = .ok (.dup, 1) := by decide +kernel
theorem dX11_init_238 : decode cX11_init 238 = .ok (.aload_n 1, 1) := by decide +kernel
theorem dX11_init_239 : decode cX11_init 239 = .ok (.aload_n 2, 1) := by decide +kernel
theorem dX11_init_240 : decode cX11_init 240 = .ok (.invokespecial 87, 3) := by decide +kernel
theorem dX11_init_243 : decode cX11_init 243 = .ok (.putfield 94, 3) := by decide +kernel
theorem dX11_init_246 : decode cX11_init 246 = .ok (.aload_n 0, 1) := by decide +kernel
theorem dX11_init_247 : decode cX11_init 247 = .ok (.new 85, 3) := by decide +kernel
theorem dX11_init_250 : decode cX11_init 250 = .ok (.dup, 1) := by decide +kernel
theorem dX11_init_251 : decode cX11_init 251 = .ok (.aload_n 1, 1) := by decide +kernel
theorem dX11_init_252 : decode cX11_init 252 = .ok (.aload_n 2, 1) := by decide +kernel
theorem dX11_init_253 : decode cX11_init 253 = .ok (.invokespecial 87, 3) := by decide +kernel
theorem dX11_init_256 : decode cX11_init 256 = .ok (.putfield 97, 3) := by decide +kernel
theorem dX11_init_259 : decode cX11_init 259 = .ok (.iconst 0, 1) := by decide +kernel
theorem dX11_init_260 : decode cX11_init 260 = .ok (.istore_n 3, 1) := by decide +kernel
theorem dX11_init_261 : decode cX11_init 261 = .ok (.iload_n 3, 1) := by decide +kernel
theorem dX11_init_262 : decode cX11_init 262 = .ok (.bipush 6, 2) := by decide +kernel
theorem dX11_init_264 : decode cX11_init 264 = .ok (.if_icmp .ge 16, 3) := by decide +kernel
theorem dX11_init_267 : decode cX11_init 267 = .ok (.aload_n 0, 1) := by decide +kernel
theorem dX11_init_268 : decode cX11_init 268 = .ok (.getfield 53, 3) := by decide +kernel
theorem dX11_init_271 : decode cX11_init 271 = .ok (.iload_n 3, 1) := by decide +kernel
theorem dX11_init_272 : decode cX11_init 272 = .ok (.iconst (-1), 1) := by decide +kernel
theorem dX11_init_273 : decode cX11_init 273 = .ok (.iastore, 1) := by decide +kernel
theorem dX11_init_274 : decode cX11_init 274 = .ok (.iinc 3 1, 3) := by decide +kernel
theorem dX11_init_277 : decode cX11_init 277 = .ok (.goto (-16), 3) := by decide +kernel
theorem dX11_init_280 : decode cX11_init 280 = .ok (.return_, 1) := by decide +kernel
theorem dX11_one_0 : decode cX11_one 0 = .ok (.iload_n 1, 1) := by decide +kernel
theorem dX11_one_1 : decode cX11_one 1 = .ok (.ifCond .lt 16, 3) := by decide +kernel
theorem dX11_one_4 : decode cX11_one 4 = .ok (.iload_n 1, 1) := by decide +kernel
theorem dX11_one_5 : decode cX11_one 5 = .ok (.bipush 7, 2) := by decide +kernel
theorem dX11_one_7 : decode cX11_one 7 = .ok (.if_icmp .ge 10, 3) := by decide +kernel
theorem dX11_one_10 : decode cX11_one 10 = .ok (.iload_n 3, 1) := by decide +kernel
theorem dX11_one_11 : decode cX11_one 11 = .ok (.invokestatic 100, 3) := by decide +kernel
theorem dX11_one_14 : decode cX11_one 14 = .ok (.ifCond .ne 5, 3) := by decide +kernel
theorem dX11_one_17 : decode cX11_one 17 = .ok (.iconst (-1), 1) := by decide +kernel
theorem dX11_one_18 : decode cX11_one 18 = .ok (.ireturn, 1) := by decide +kernel
theorem dX11_one_19 : decode cX11_one 19 = .ok (.iload_n 2, 1) := by decide +kernel
theorem dX11_one_20 : decode cX11_one 20 = .ok (.invokestatic 104, 3) := by decide +kernel
theorem dX11_one_23 : decode cX11_one 23 = .ok (.ifCond .ne 6, 3) := by decide +kernel
theorem dX11_one_26 : decode cX11_one 26 = .ok (.bipush (-2), 2) := by decide +kernel
theorem dX11_one_28 : decode cX11_one 28 = .ok (.ireturn, 1) := by decide +kernel
theorem dX11_one_29 : decode cX11_one 29 = .ok (.aload_n 0, 1) := by decide +kernel
theorem dX11_one_30 : decode cX11_one 30 = .ok (.getfield 90, 3) := by decide +kernel
theorem dX11_one_33 : decode cX11_one 33 = .ok (.iload_n 1, 1) := by decide +kernel
theorem dX11_one_34 : decode cX11_one 34 = .ok (.iload_n 2, 1) := by decide +kernel
theorem dX11_one_35 : decode cX11_one 35 = .ok (.iload_n 3, 1) := by decide +kernel
theorem dX11_one_36 : decode cX11_one 36 = .ok (.invokevirtual 107, 3) := by decide +kernel
theorem dX11_one_39 : decode cX11_one 39 = .ok (.ireturn, 1) := by decide +kernel
theorem dX11_of_0 : decode cX11_of 0 = .ok (.aload_n 0, 1) := by decide +kernel
theorem dX11_of_1 : decode cX11_of 1 = .ok (.iload_n 1, 1) := by decide +kernel
theorem dX11_of_2 : decode cX11_of 2 = .ok (.invokevirtual 111, 3) := by decide +kernel
theorem dX11_of_5 : decode cX11_of 5 = .ok (.ifCond .ne 5, 3) := by decide +kernel
theorem dX11_of_8 : decode cX11_of 8 = .ok (.iconst (-1), 1) := by decide +kernel
theorem dX11_of_9 : decode cX11_of 9 = .ok (.ireturn, 1) := by decide +kernel
theorem dX11_of_10 : decode cX11_of 10 = .ok (.iload_n 2, 1) := by decide +kernel
theorem dX11_of_11 : decode cX11_of 11 = .ok (.tableswitch 106 0 5 #[37, 47, 57, 67, 85, 94], 37) := by decide +kernel
theorem dX11_of_48 : decode cX11_of 48 = .ok (.aload_n 0, 1) := by decide +kernel
theorem dX11_of_49 : decode cX11_of 49 = .ok (.getfield 90, 3) := by decide +kernel
theorem dX11_of_52 : decode cX11_of 52 = .ok (.getfield 114, 3) := by decide +kernel
theorem dX11_of_55 : decode cX11_of 55 = .ok (.iload_n 1, 1) := by decide +kernel
theorem dX11_of_56 : decode cX11_of 56 = .ok (.iaload, 1) := by decide +kernel
theorem dX11_of_57 : decode cX11_of 57 = .ok (.ireturn, 1) := by decide +kernel
theorem dX11_of_58 : decode cX11_of 58 = .ok (.aload_n 0, 1) := by decide +kernel
theorem dX11_of_59 : decode cX11_of 59 = .ok (.getfield 90, 3) := by decide +kernel
theorem dX11_of_62 : decode cX11_of 62 = .ok (.getfield 117, 3) := by decide +kernel
theorem dX11_of_65 : decode cX11_of 65 = .ok (.iload_n 1, 1) := by decide +kernel
theorem dX11_of_66 : decode cX11_of 66 = .ok (.iaload, 1) := by decide +kernel
theorem dX11_of_67 : decode cX11_of 67 = .ok (.ireturn, 1) := by decide +kernel
theorem dX11_of_68 : decode cX11_of 68 = .ok (.aload_n 0, 1) := by decide +kernel
theorem dX11_of_69 : decode cX11_of 69 = .ok (.getfield 90, 3) := by decide +kernel
theorem dX11_of_72 : decode cX11_of 72 = .ok (.getfield 120, 3) := by decide +kernel
theorem dX11_of_75 : decode cX11_of 75 = .ok (.iload_n 1, 1) := by decide +kernel
theorem dX11_of_76 : decode cX11_of 76 = .ok (.iaload, 1) := by decide +kernel
theorem dX11_of_77 : decode cX11_of 77 = .ok (.ireturn, 1) := by decide +kernel
theorem dX11_of_78 : decode cX11_of 78 = .ok (.aload_n 0, 1) := by decide +kernel
theorem dX11_of_79 : decode cX11_of 79 = .ok (.getfield 90, 3) := by decide +kernel
theorem dX11_of_82 : decode cX11_of 82 = .ok (.getfield 123, 3) := by decide +kernel
theorem dX11_of_85 : decode cX11_of 85 = .ok (.iload_n 1, 1) := by decide +kernel
theorem dX11_of_86 : decode cX11_of 86 = .ok (.baload, 1) := by decide +kernel
theorem dX11_of_87 : decode cX11_of 87 = .ok (.ifCond .eq 7, 3) := by decide +kernel
theorem dX11_of_90 : decode cX11_of 90 = .ok (.iconst 1, 1) := by decide +kernel
theorem dX11_of_91 : decode cX11_of 91 = .ok (.goto 4, 3) := by decide +kernel
theorem dX11_of_94 : decode cX11_of 94 = .ok (.iconst 0, 1) := by decide +kernel
theorem dX11_of_95 : decode cX11_of 95 = .ok (.ireturn, 1) := by decide +kernel
theorem dX11_of_96 : decode cX11_of 96 = .ok (.aload_n 0, 1) := by decide +kernel
theorem dX11_of_97 : decode cX11_of 97 = .ok (.getfield 90, 3) := by decide +kernel
theorem dX11_of_100 : decode cX11_of 100 = .ok (.iload_n 1, 1) := by decide +kernel
theorem dX11_of_101 : decode cX11_of 101 = .ok (.invokevirtual 127, 3) := by decide +kernel
theorem dX11_of_104 : decode cX11_of 104 = .ok (.ireturn, 1) := by decide +kernel
theorem dX11_of_105 : decode cX11_of 105 = .ok (.aload_n 0, 1) := by decide +kernel
theorem dX11_of_106 : decode cX11_of 106 = .ok (.getfield 90, 3) := by decide +kernel
theorem dX11_of_109 : decode cX11_of 109 = .ok (.iload_n 1, 1) := by decide +kernel
theorem dX11_of_110 : decode cX11_of 110 = .ok (.invokevirtual 131, 3) := by decide +kernel
theorem dX11_of_113 : decode cX11_of 113 = .ok (.invokevirtual 135, 3) := by decide +kernel
theorem dX11_of_116 : decode cX11_of 116 = .ok (.ireturn, 1) := by decide +kernel
theorem dX11_of_117 : decode cX11_of 117 = .ok (.iconst (-1), 1) := by decide +kernel
theorem dX11_of_118 : decode cX11_of 118 = .ok (.ireturn, 1) := by decide +kernel
theorem dX11_pull_0 : decode cX11_pull 0 = .ok (.aload_n 0, 1) := by decide +kernel
theorem dX11_pull_1 : decode cX11_pull 1 = .ok (.iload_n 1, 1) := by decide +kernel
theorem dX11_pull_2 : decode cX11_pull 2 = .ok (.invokevirtual 111, 3) := by decide +kernel
theorem dX11_pull_5 : decode cX11_pull 5 = .ok (.ifCond .eq 10, 3) := by decide +kernel
theorem dX11_pull_8 : decode cX11_pull 8 = .ok (.iload_n 2, 1) := by decide +kernel
theorem dX11_pull_9 : decode cX11_pull 9 = .ok (.invokestatic 100, 3) := by decide +kernel
theorem dX11_pull_12 : decode cX11_pull 12 = .ok (.ifCond .ne 7, 3) := by decide +kernel
theorem dX11_pull_15 : decode cX11_pull 15 = .ok (.sipush (-10001), 3) := by decide +kernel
theorem dX11_pull_18 : decode cX11_pull 18 = .ok (.ireturn, 1) := by decide +kernel
theorem dX11_pull_19 : decode cX11_pull 19 = .ok (.aload_n 0, 1) := by decide +kernel
theorem dX11_pull_20 : decode cX11_pull 20 = .ok (.getfield 90, 3) := by decide +kernel
theorem dX11_pull_23 : decode cX11_pull 23 = .ok (.iload_n 1, 1) := by decide +kernel
theorem dX11_pull_24 : decode cX11_pull 24 = .ok (.iload_n 2, 1) := by decide +kernel
theorem dX11_pull_25 : decode cX11_pull 25 = .ok (.invokevirtual 139, 3) := by decide +kernel
theorem dX11_pull_28 : decode cX11_pull 28 = .ok (.ireturn, 1) := by decide +kernel
theorem dX11_put_0 : decode cX11_put 0 = .ok (.aload_n 0, 1) := by decide +kernel
theorem dX11_put_1 : decode cX11_put 1 = .ok (.iload_n 1, 1) := by decide +kernel
theorem dX11_put_2 : decode cX11_put 2 = .ok (.invokevirtual 111, 3) := by decide +kernel
theorem dX11_put_5 : decode cX11_put 5 = .ok (.ifCond .eq 10, 3) := by decide +kernel
theorem dX11_put_8 : decode cX11_put 8 = .ok (.iload_n 2, 1) := by decide +kernel
theorem dX11_put_9 : decode cX11_put 9 = .ok (.invokestatic 100, 3) := by decide +kernel
theorem dX11_put_12 : decode cX11_put 12 = .ok (.ifCond .ne 5, 3) := by decide +kernel
theorem dX11_put_15 : decode cX11_put 15 = .ok (.iconst (-1), 1) := by decide +kernel
theorem dX11_put_16 : decode cX11_put 16 = .ok (.ireturn, 1) := by decide +kernel
theorem dX11_put_17 : decode cX11_put 17 = .ok (.aload_n 0, 1) := by decide +kernel
theorem dX11_put_18 : decode cX11_put 18 = .ok (.getfield 90, 3) := by decide +kernel
theorem dX11_put_21 : decode cX11_put 21 = .ok (.getfield 120, 3) := by decide +kernel
theorem dX11_put_24 : decode cX11_put 24 = .ok (.iload_n 1, 1) := by decide +kernel
theorem dX11_put_25 : decode cX11_put 25 = .ok (.iaload, 1) := by decide +kernel
theorem dX11_put_26 : decode cX11_put 26 = .ok (.istore_n 3, 1) := by decide +kernel
theorem dX11_put_27 : decode cX11_put 27 = .ok (.aload_n 0, 1) := by decide +kernel
theorem dX11_put_28 : decode cX11_put 28 = .ok (.getfield 90, 3) := by decide +kernel
theorem dX11_put_31 : decode cX11_put 31 = .ok (.getfield 120, 3) := by decide +kernel
theorem dX11_put_34 : decode cX11_put 34 = .ok (.iload_n 1, 1) := by decide +kernel
theorem dX11_put_35 : decode cX11_put 35 = .ok (.iload_n 2, 1) := by decide +kernel
theorem dX11_put_36 : decode cX11_put 36 = .ok (.iastore, 1) := by decide +kernel
theorem dX11_put_37 : decode cX11_put 37 = .ok (.iload_n 3, 1) := by decide +kernel
theorem dX11_put_38 : decode cX11_put 38 = .ok (.ireturn, 1) := by decide +kernel
theorem dX11_wear_0 : decode cX11_wear 0 = .ok (.iload_n 1, 1) := by decide +kernel
theorem dX11_wear_1 : decode cX11_wear 1 = .ok (.invokestatic 100, 3) := by decide +kernel
theorem dX11_wear_4 : decode cX11_wear 4 = .ok (.ifCond .ne 5, 3) := by decide +kernel
theorem dX11_wear_7 : decode cX11_wear 7 = .ok (.iconst (-1), 1) := by decide +kernel
theorem dX11_wear_8 : decode cX11_wear 8 = .ok (.ireturn, 1) := by decide +kernel
theorem dX11_wear_9 : decode cX11_wear 9 = .ok (.iload_n 2, 1) := by decide +kernel
theorem dX11_wear_10 : decode cX11_wear 10 = .ok (.ifCond .lt 9, 3) := by decide +kernel
theorem dX11_wear_13 : decode cX11_wear 13 = .ok (.iload_n 2, 1) := by decide +kernel
theorem dX11_wear_14 : decode cX11_wear 14 = .ok (.bipush 99, 2) := by decide +kernel
theorem dX11_wear_16 : decode cX11_wear 16 = .ok (.if_icmp .le 6, 3) := by decide +kernel
theorem dX11_wear_19 : decode cX11_wear 19 = .ok (.bipush (-2), 2) := by decide +kernel
theorem dX11_wear_21 : decode cX11_wear 21 = .ok (.ireturn, 1) := by decide +kernel
theorem dX11_wear_22 : decode cX11_wear 22 = .ok (.aload_n 0, 1) := by decide +kernel
theorem dX11_wear_23 : decode cX11_wear 23 = .ok (.getfield 90, 3) := by decide +kernel
theorem dX11_wear_26 : decode cX11_wear 26 = .ok (.getfield 143, 3) := by decide +kernel
theorem dX11_wear_29 : decode cX11_wear 29 = .ok (.iload_n 1, 1) := by decide +kernel
theorem dX11_wear_30 : decode cX11_wear 30 = .ok (.iaload, 1) := by decide +kernel
theorem dX11_wear_31 : decode cX11_wear 31 = .ok (.istore_n 3, 1) := by decide +kernel
theorem dX11_wear_32 : decode cX11_wear 32 = .ok (.aload_n 0, 1) := by decide +kernel
theorem dX11_wear_33 : decode cX11_wear 33 = .ok (.getfield 90, 3) := by decide +kernel
theorem dX11_wear_36 : decode cX11_wear 36 = .ok (.getfield 143, 3) := by decide +kernel
theorem dX11_wear_39 : decode cX11_wear 39 = .ok (.iload_n 1, 1) := by decide +kernel
theorem dX11_wear_40 : decode cX11_wear 40 = .ok (.iload_n 2, 1) := by decide +kernel
theorem dX11_wear_41 : decode cX11_wear 41 = .ok (.iastore, 1) := by decide +kernel
theorem dX11_wear_42 : decode cX11_wear 42 = .ok (.iload_n 3, 1) := by decide +kernel
theorem dX11_wear_43 : decode cX11_wear 43 = .ok (.ireturn, 1) := by decide +kernel
theorem dX11_away_0 : decode cX11_away 0 = .ok (.aload_n 0, 1) := by decide +kernel
theorem dX11_away_1 : decode cX11_away 1 = .ok (.iload_n 1, 1) := by decide +kernel
theorem dX11_away_2 : decode cX11_away 2 = .ok (.invokevirtual 111, 3) := by decide +kernel
theorem dX11_away_5 : decode cX11_away 5 = .ok (.ifCond .ne 5, 3) := by decide +kernel
theorem dX11_away_8 : decode cX11_away 8 = .ok (.iconst (-1), 1) := by decide +kernel
theorem dX11_away_9 : decode cX11_away 9 = .ok (.ireturn, 1) := by decide +kernel
theorem dX11_away_10 : decode cX11_away 10 = .ok (.aload_n 0, 1) := by decide +kernel
theorem dX11_away_11 : decode cX11_away 11 = .ok (.getfield 90, 3) := by decide +kernel
theorem dX11_away_14 : decode cX11_away 14 = .ok (.getfield 123, 3) := by decide +kernel
theorem dX11_away_17 : decode cX11_away 17 = .ok (.iload_n 1, 1) := by decide +kernel
theorem dX11_away_18 : decode cX11_away 18 = .ok (.baload, 1) := by decide +kernel
theorem dX11_away_19 : decode cX11_away 19 = .ok (.ifCond .eq 7, 3) := by decide +kernel
theorem dX11_away_22 : decode cX11_away 22 = .ok (.iconst 1, 1) := by decide +kernel
theorem dX11_away_23 : decode cX11_away 23 = .ok (.goto 4, 3) := by decide +kernel
theorem dX11_away_26 : decode cX11_away 26 = .ok (.iconst 0, 1) := by decide +kernel
theorem dX11_away_27 : decode cX11_away 27 = .ok (.istore_n 3, 1) := by decide +kernel
theorem dX11_away_28 : decode cX11_away 28 = .ok (.aload_n 0, 1) := by decide +kernel
theorem dX11_away_29 : decode cX11_away 29 = .ok (.getfield 90, 3) := by decide +kernel
theorem dX11_away_32 : decode cX11_away 32 = .ok (.getfield 123, 3) := by decide +kernel
theorem dX11_away_35 : decode cX11_away 35 = .ok (.iload_n 1, 1) := by decide +kernel
theorem dX11_away_36 : decode cX11_away 36 = .ok (.iload_n 2, 1) := by decide +kernel
theorem dX11_away_37 : decode cX11_away 37 = .ok (.bastore, 1) := by decide +kernel
theorem dX11_away_38 : decode cX11_away 38 = .ok (.iload_n 3, 1) := by decide +kernel
theorem dX11_away_39 : decode cX11_away 39 = .ok (.ireturn, 1) := by decide +kernel
theorem dX11_row_0 : decode cX11_row 0 = .ok (.aload_n 0, 1) := by decide +kernel
theorem dX11_row_1 : decode cX11_row 1 = .ok (.iload_n 1, 1) := by decide +kernel
theorem dX11_row_2 : decode cX11_row 2 = .ok (.invokevirtual 111, 3) := by decide +kernel
theorem dX11_row_5 : decode cX11_row 5 = .ok (.ifCond .eq 12, 3) := by decide +kernel
theorem dX11_row_8 : decode cX11_row 8 = .ok (.iload_n 2, 1) := by decide +kernel
theorem dX11_row_9 : decode cX11_row 9 = .ok (.ifCond .lt 8, 3) := by decide +kernel
theorem dX11_row_12 : decode cX11_row 12 = .ok (.iload_n 2, 1) := by decide +kernel
theorem dX11_row_13 : decode cX11_row 13 = .ok (.iconst 4, 1) := by decide +kernel
theorem dX11_row_14 : decode cX11_row 14 = .ok (.if_icmp .lt 5, 3) := by decide +kernel
theorem dX11_row_17 : decode cX11_row 17 = .ok (.iconst (-1), 1) := by decide +kernel
theorem dX11_row_18 : decode cX11_row 18 = .ok (.ireturn, 1) := by decide +kernel
theorem dX11_row_19 : decode cX11_row 19 = .ok (.iload_n 3, 1) := by decide +kernel
theorem dX11_row_20 : decode cX11_row 20 = .ok (.invokestatic 104, 3) := by decide +kernel
theorem dX11_row_23 : decode cX11_row 23 = .ok (.ifCond .ne 6, 3) := by decide +kernel
theorem dX11_row_26 : decode cX11_row 26 = .ok (.bipush (-2), 2) := by decide +kernel
theorem dX11_row_28 : decode cX11_row 28 = .ok (.ireturn, 1) := by decide +kernel
theorem dX11_row_29 : decode cX11_row 29 = .ok (.aload_n 0, 1) := by decide +kernel
theorem dX11_row_30 : decode cX11_row 30 = .ok (.getfield 90, 3) := by decide +kernel
theorem dX11_row_33 : decode cX11_row 33 = .ok (.iload_n 1, 1) := by decide +kernel
theorem dX11_row_34 : decode cX11_row 34 = .ok (.invokevirtual 131, 3) := by decide +kernel
theorem dX11_row_37 : decode cX11_row 37 = .ok (.instanceof 82, 3) := by decide +kernel
theorem dX11_row_40 : decode cX11_row 40 = .ok (.ifCond .ne 6, 3) := by decide +kernel
theorem dX11_row_43 : decode cX11_row 43 = .ok (.bipush (-3), 2) := by decide +kernel
theorem dX11_row_45 : decode cX11_row 45 = .ok (.ireturn, 1) := by decide +kernel
theorem dX11_row_46 : decode cX11_row 46 = .ok (.iload_n 1, 1) := by decide +kernel
theorem dX11_row_47 : decode cX11_row 47 = .ok (.iconst 4, 1) := by decide +kernel
theorem dX11_row_48 : decode cX11_row 48 = .ok (.imul, 1) := by decide +kernel
theorem dX11_row_49 : decode cX11_row 49 = .ok (.iload_n 2, 1) := by decide +kernel
theorem dX11_row_50 : decode cX11_row 50 = .ok (.iadd, 1) := by decide +kernel
theorem dX11_row_51 : decode cX11_row 51 = .ok (.istore 4, 2) := by decide +kernel
theorem dX11_row_53 : decode cX11_row 53 = .ok (.aload_n 0, 1) := by decide +kernel
theorem dX11_row_54 : decode cX11_row 54 = .ok (.getfield 90, 3) := by decide +kernel
theorem dX11_row_57 : decode cX11_row 57 = .ok (.getfield 146, 3) := by decide +kernel
theorem dX11_row_60 : decode cX11_row 60 = .ok (.iload 4, 2) := by decide +kernel
theorem dX11_row_62 : decode cX11_row 62 = .ok (.iaload, 1) := by decide +kernel
theorem dX11_row_63 : decode cX11_row 63 = .ok (.istore 5, 2) := by decide +kernel
theorem dX11_row_65 : decode cX11_row 65 = .ok (.aload_n 0, 1) := by decide +kernel
theorem dX11_row_66 : decode cX11_row 66 = .ok (.getfield 90, 3) := by decide +kernel
theorem dX11_row_69 : decode cX11_row 69 = .ok (.getfield 146, 3) := by decide +kernel
theorem dX11_row_72 : decode cX11_row 72 = .ok (.iload 4, 2) := by decide +kernel
theorem dX11_row_74 : decode cX11_row 74 = .ok (.iload_n 3, 1) := by decide +kernel
theorem dX11_row_75 : decode cX11_row 75 = .ok (.iastore, 1) := by decide +kernel
theorem dX11_row_76 : decode cX11_row 76 = .ok (.iload 5, 2) := by decide +kernel
theorem dX11_row_78 : decode cX11_row 78 = .ok (.ireturn, 1) := by decide +kernel
theorem dX11_feed_0 : decode cX11_feed 0 = .ok (.iload_n 1, 1) := by decide +kernel
theorem dX11_feed_1 : decode cX11_feed 1 = .ok (.ifCond .lt 10, 3) := by decide +kernel
theorem dX11_feed_4 : decode cX11_feed 4 = .ok (.iload_n 1, 1) := by decide +kernel
theorem dX11_feed_5 : decode cX11_feed 5 = .ok (.sipush 128, 3) := by decide +kernel
theorem dX11_feed_8 : decode cX11_feed 8 = .ok (.if_icmp .lt 6, 3) := by decide +kernel
theorem dX11_feed_11 : decode cX11_feed 11 = .ok (.bipush (-2), 2) := by decide +kernel
theorem dX11_feed_13 : decode cX11_feed 13 = .ok (.ireturn, 1) := by decide +kernel
theorem dX11_feed_14 : decode cX11_feed 14 = .ok (.aload_n 0, 1) := by decide +kernel
theorem dX11_feed_15 : decode cX11_feed 15 = .ok (.getfield 149, 3) := by decide +kernel
theorem dX11_feed_18 : decode cX11_feed 18 = .ok (.bipush 100, 2) := by decide +kernel
theorem dX11_feed_20 : decode cX11_feed 20 = .ok (.if_icmp .lt 6, 3) := by decide +kernel
theorem dX11_feed_23 : decode cX11_feed 23 = .ok (.bipush (-4), 2) := by decide +kernel
theorem dX11_feed_25 : decode cX11_feed 25 = .ok (.ireturn, 1) := by decide +kernel
theorem dX11_feed_26 : decode cX11_feed 26 = .ok (.aload_n 0, 1) := by decide +kernel
theorem dX11_feed_27 : decode cX11_feed 27 = .ok (.getfield 35, 3) := by decide +kernel
theorem dX11_feed_30 : decode cX11_feed 30 = .ok (.aload_n 0, 1) := by decide +kernel
theorem dX11_feed_31 : decode cX11_feed 31 = .ok (.getfield 149, 3) := by decide +kernel
theorem dX11_feed_34 : decode cX11_feed 34 = .ok (.iload_n 1, 1) := by decide +kernel
theorem dX11_feed_35 : decode cX11_feed 35 = .ok (.i2b, 1) := by decide +kernel
theorem dX11_feed_36 : decode cX11_feed 36 = .ok (.bastore, 1) := by decide +kernel
theorem dX11_feed_37 : decode cX11_feed 37 = .ok (.aload_n 0, 1) := by decide +kernel
theorem dX11_feed_38 : decode cX11_feed 38 = .ok (.dup, 1) := by decide +kernel
theorem dX11_feed_39 : decode cX11_feed 39 = .ok (.getfield 149, 3) := by decide +kernel
theorem dX11_feed_42 : decode cX11_feed 42 = .ok (.iconst 1, 1) := by decide +kernel
theorem dX11_feed_43 : decode cX11_feed 43 = .ok (.iadd, 1) := by decide +kernel
theorem dX11_feed_44 : decode cX11_feed 44 = .ok (.putfield 149, 3) := by decide +kernel
theorem dX11_feed_47 : decode cX11_feed 47 = .ok (.aload_n 0, 1) := by decide +kernel
theorem dX11_feed_48 : decode cX11_feed 48 = .ok (.getfield 149, 3) := by decide +kernel
theorem dX11_feed_51 : decode cX11_feed 51 = .ok (.ireturn, 1) := by decide +kernel
theorem dX11_statute_0 : decode cX11_statute 0 = .ok (.aload_n 0, 1) := by decide +kernel
theorem dX11_statute_1 : decode cX11_statute 1 = .ok (.getfield 153, 3) := by decide +kernel
theorem dX11_statute_4 : decode cX11_statute 4 = .ok (.bipush 6, 2) := by decide +kernel
theorem dX11_statute_6 : decode cX11_statute 6 = .ok (.if_icmp .lt 6, 3) := by decide +kernel
theorem dX11_statute_9 : decode cX11_statute 9 = .ok (.bipush (-4), 2) := by decide +kernel
theorem dX11_statute_11 : decode cX11_statute 11 = .ok (.ireturn, 1) := by decide +kernel
theorem dX11_statute_12 : decode cX11_statute 12 = .ok (.aload_n 0, 1) := by decide +kernel
theorem dX11_statute_13 : decode cX11_statute 13 = .ok (.getfield 42, 3) := by decide +kernel
theorem dX11_statute_16 : decode cX11_statute 16 = .ok (.aload_n 0, 1) := by decide +kernel
theorem dX11_statute_17 : decode cX11_statute 17 = .ok (.getfield 35, 3) := by decide +kernel
theorem dX11_statute_20 : decode cX11_statute 20 = .ok (.aload_n 0, 1) := by decide +kernel
theorem dX11_statute_21 : decode cX11_statute 21 = .ok (.getfield 149, 3) := by decide +kernel
theorem dX11_statute_24 : decode cX11_statute 24 = .ok (.invokevirtual 156, 3) := by decide +kernel
theorem dX11_statute_27 : decode cX11_statute 27 = .ok (.istore_n 1, 1) := by decide +kernel
theorem dX11_statute_28 : decode cX11_statute 28 = .ok (.aload_n 0, 1) := by decide +kernel
theorem dX11_statute_29 : decode cX11_statute 29 = .ok (.iconst 0, 1) := by decide +kernel
theorem dX11_statute_30 : decode cX11_statute 30 = .ok (.putfield 149, 3) := by decide +kernel
theorem dX11_statute_33 : decode cX11_statute 33 = .ok (.iload_n 1, 1) := by decide +kernel
theorem dX11_statute_34 : decode cX11_statute 34 = .ok (.ifCond .ne 14, 3) := by decide +kernel
theorem dX11_statute_37 : decode cX11_statute 37 = .ok (.bipush (-10), 2) := by decide +kernel
theorem dX11_statute_39 : decode cX11_statute 39 = .ok (.aload_n 0, 1) := by decide +kernel
theorem dX11_statute_40 : decode cX11_statute 40 = .ok (.getfield 42, 3) := by decide +kernel
theorem dX11_statute_43 : decode cX11_statute 43 = .ok (.getfield 160, 3) := by decide +kernel
theorem dX11_statute_46 : decode cX11_statute 46 = .ok (.isub, 1) := by decide +kernel
theorem dX11_statute_47 : decode cX11_statute 47 = .ok (.ireturn, 1) := by decide +kernel
theorem dX11_statute_48 : decode cX11_statute 48 = .ok (.aload_n 0, 1) := by decide +kernel
theorem dX11_statute_49 : decode cX11_statute 49 = .ok (.getfield 90, 3) := by decide +kernel
theorem dX11_statute_52 : decode cX11_statute 52 = .ok (.aload_n 0, 1) := by decide +kernel
theorem dX11_statute_53 : decode cX11_statute 53 = .ok (.getfield 42, 3) := by decide +kernel
theorem dX11_statute_56 : decode cX11_statute 56 = .ok (.putfield 163, 3) := by decide +kernel
theorem dX11_statute_59 : decode cX11_statute 59 = .ok (.aload_n 0, 1) := by decide +kernel
theorem dX11_statute_60 : decode cX11_statute 60 = .ok (.new 39, 3) := by decide +kernel
theorem dX11_statute_63 : decode cX11_statute 63 = .ok (.dup, 1) := by decide +kernel
theorem dX11_statute_64 : decode cX11_statute 64 = .ok (.invokespecial 41, 3) := by decide +kernel
theorem dX11_statute_67 : decode cX11_statute 67 = .ok (.putfield 42, 3) := by decide +kernel
theorem dX11_statute_70 : decode cX11_statute 70 = .ok (.aload_n 0, 1) := by decide +kernel
theorem dX11_statute_71 : decode cX11_statute 71 = .ok (.dup, 1) := by decide +kernel
theorem dX11_statute_72 : decode cX11_statute 72 = .ok (.getfield 153, 3) := by decide +kernel
theorem dX11_statute_75 : decode cX11_statute 75 = .ok (.iconst 1, 1) := by decide +kernel
theorem dX11_statute_76 : decode cX11_statute 76 = .ok (.iadd, 1) := by decide +kernel
theorem dX11_statute_77 : decode cX11_statute 77 = .ok (.putfield 153, 3) := by decide +kernel
theorem dX11_statute_80 : decode cX11_statute 80 = .ok (.aload_n 0, 1) := by decide +kernel
theorem dX11_statute_81 : decode cX11_statute 81 = .ok (.getfield 153, 3) := by decide +kernel
theorem dX11_statute_84 : decode cX11_statute 84 = .ok (.iconst 1, 1) := by decide +kernel
theorem dX11_statute_85 : decode cX11_statute 85 = .ok (.isub, 1) := by decide +kernel
theorem dX11_statute_86 : decode cX11_statute 86 = .ok (.ireturn, 1) := by decide +kernel
theorem dX11_told_0 : decode cX11_told 0 = .ok (.iload_n 1, 1) := by decide +kernel
theorem dX11_told_1 : decode cX11_told 1 = .ok (.tableswitch 78 0 4 #[35, 43, 54, 62, 70], 35) := by decide +kernel
theorem dX11_told_36 : decode cX11_told 36 = .ok (.aload_n 0, 1) := by decide +kernel
theorem dX11_told_37 : decode cX11_told 37 = .ok (.getfield 90, 3) := by decide +kernel
theorem dX11_told_40 : decode cX11_told 40 = .ok (.getfield 166, 3) := by decide +kernel
theorem dX11_told_43 : decode cX11_told 43 = .ok (.ireturn, 1) := by decide +kernel
theorem dX11_told_44 : decode cX11_told 44 = .ok (.aload_n 0, 1) := by decide +kernel
theorem dX11_told_45 : decode cX11_told 45 = .ok (.getfield 90, 3) := by decide +kernel
theorem dX11_told_48 : decode cX11_told 48 = .ok (.getfield 163, 3) := by decide +kernel
theorem dX11_told_51 : decode cX11_told 51 = .ok (.getfield 169, 3) := by decide +kernel
theorem dX11_told_54 : decode cX11_told 54 = .ok (.ireturn, 1) := by decide +kernel
theorem dX11_told_55 : decode cX11_told 55 = .ok (.aload_n 0, 1) := by decide +kernel
theorem dX11_told_56 : decode cX11_told 56 = .ok (.getfield 90, 3) := by decide +kernel
theorem dX11_told_59 : decode cX11_told 59 = .ok (.invokevirtual 172, 3) := by decide +kernel
theorem dX11_told_62 : decode cX11_told 62 = .ok (.ireturn, 1) := by decide +kernel
theorem dX11_told_63 : decode cX11_told 63 = .ok (.aload_n 0, 1) := by decide +kernel
theorem dX11_told_64 : decode cX11_told 64 = .ok (.getfield 90, 3) := by decide +kernel
theorem dX11_told_67 : decode cX11_told 67 = .ok (.invokevirtual 175, 3) := by decide +kernel
theorem dX11_told_70 : decode cX11_told 70 = .ok (.ireturn, 1) := by decide +kernel
theorem dX11_told_71 : decode cX11_told 71 = .ok (.aload_n 0, 1) := by decide +kernel
theorem dX11_told_72 : decode cX11_told 72 = .ok (.getfield 90, 3) := by decide +kernel
theorem dX11_told_75 : decode cX11_told 75 = .ok (.invokevirtual 178, 3) := by decide +kernel
theorem dX11_told_78 : decode cX11_told 78 = .ok (.ireturn, 1) := by decide +kernel
theorem dX11_told_79 : decode cX11_told 79 = .ok (.iload_n 1, 1) := by decide +kernel
theorem dX11_told_80 : decode cX11_told 80 = .ok (.bipush 10, 2) := by decide +kernel
theorem dX11_told_82 : decode cX11_told 82 = .ok (.isub, 1) := by decide +kernel
theorem dX11_told_83 : decode cX11_told 83 = .ok (.invokestatic 100, 3) := by decide +kernel
theorem dX11_told_86 : decode cX11_told 86 = .ok (.ifCond .eq 18, 3) := by decide +kernel
theorem dX11_told_89 : decode cX11_told 89 = .ok (.aload_n 0, 1) := by decide +kernel
theorem dX11_told_90 : decode cX11_told 90 = .ok (.getfield 90, 3) := by decide +kernel
theorem dX11_told_93 : decode cX11_told 93 = .ok (.getfield 143, 3) := by decide +kernel
theorem dX11_told_96 : decode cX11_told 96 = .ok (.iload_n 1, 1) := by decide +kernel
theorem dX11_told_97 : decode cX11_told 97 = .ok (.bipush 10, 2) := by decide +kernel
theorem dX11_told_99 : decode cX11_told 99 = .ok (.isub, 1) := by decide +kernel
theorem dX11_told_100 : decode cX11_told 100 = .ok (.iaload, 1) := by decide +kernel
theorem dX11_told_101 : decode cX11_told 101 = .ok (.goto 4, 3) := by decide +kernel
theorem dX11_told_104 : decode cX11_told 104 = .ok (.iconst (-1), 1) := by decide +kernel
theorem dX11_told_105 : decode cX11_told 105 = .ok (.ireturn, 1) := by decide +kernel
theorem dX11_pass_0 : decode cX11_pass 0 = .ok (.iload_n 1, 1) := by decide +kernel
theorem dX11_pass_1 : decode cX11_pass 1 = .ok (.ifCond .lt 9, 3) := by decide +kernel
theorem dX11_pass_4 : decode cX11_pass 4 = .ok (.iload_n 1, 1) := by decide +kernel
theorem dX11_pass_5 : decode cX11_pass 5 = .ok (.bipush 60, 2) := by decide +kernel
theorem dX11_pass_7 : decode cX11_pass 7 = .ok (.if_icmp .le 6, 3) := by decide +kernel
theorem dX11_pass_10 : decode cX11_pass 10 = .ok (.bipush (-2), 2) := by decide +kernel
theorem dX11_pass_12 : decode cX11_pass 12 = .ok (.ireturn, 1) := by decide +kernel
theorem dX11_pass_13 : decode cX11_pass 13 = .ok (.aload_n 0, 1) := by decide +kernel
theorem dX11_pass_14 : decode cX11_pass 14 = .ok (.getfield 90, 3) := by decide +kernel
theorem dX11_pass_17 : decode cX11_pass 17 = .ok (.getfield 166, 3) := by decide +kernel
theorem dX11_pass_20 : decode cX11_pass 20 = .ok (.iload_n 1, 1) := by decide +kernel
theorem dX11_pass_21 : decode cX11_pass 21 = .ok (.iadd, 1) := by decide +kernel
theorem dX11_pass_22 : decode cX11_pass 22 = .ok (.sipush 9999, 3) := by decide +kernel
theorem dX11_pass_25 : decode cX11_pass 25 = .ok (.if_icmp .le 6, 3) := by decide +kernel
theorem dX11_pass_28 : decode cX11_pass 28 = .ok (.bipush (-3), 2) := by decide +kernel
theorem dX11_pass_30 : decode cX11_pass 30 = .ok (.ireturn, 1) := by decide +kernel
theorem dX11_pass_31 : decode cX11_pass 31 = .ok (.aload_n 0, 1) := by decide +kernel
theorem dX11_pass_32 : decode cX11_pass 32 = .ok (.getfield 90, 3) := by decide +kernel
theorem dX11_pass_35 : decode cX11_pass 35 = .ok (.iload_n 1, 1) := by decide +kernel
theorem dX11_pass_36 : decode cX11_pass 36 = .ok (.invokevirtual 181, 3) := by decide +kernel
theorem dX11_pass_39 : decode cX11_pass 39 = .ok (.aload_n 0, 1) := by decide +kernel
theorem dX11_pass_40 : decode cX11_pass 40 = .ok (.getfield 90, 3) := by decide +kernel
theorem dX11_pass_43 : decode cX11_pass 43 = .ok (.getfield 166, 3) := by decide +kernel
theorem dX11_pass_46 : decode cX11_pass 46 = .ok (.ireturn, 1) := by decide +kernel
theorem dX11_on_0 : decode cX11_on 0 = .ok (.iload_n 2, 1) := by decide +kernel
theorem dX11_on_1 : decode cX11_on 1 = .ok (.bipush 10, 2) := by decide +kernel
theorem dX11_on_3 : decode cX11_on 3 = .ok (.isub, 1) := by decide +kernel
theorem dX11_on_4 : decode cX11_on 4 = .ok (.istore_n 3, 1) := by decide +kernel
theorem dX11_on_5 : decode cX11_on 5 = .ok (.iload_n 2, 1) := by decide +kernel
theorem dX11_on_6 : decode cX11_on 6 = .ok (.bipush 40, 2) := by decide +kernel
theorem dX11_on_8 : decode cX11_on 8 = .ok (.isub, 1) := by decide +kernel
theorem dX11_on_9 : decode cX11_on 9 = .ok (.istore 4, 2) := by decide +kernel
theorem dX11_on_11 : decode cX11_on 11 = .ok (.iload_n 2, 1) := by decide +kernel
theorem dX11_on_12 : decode cX11_on 12 = .ok (.ifCond .eq 21, 3) := by decide +kernel
theorem dX11_on_15 : decode cX11_on 15 = .ok (.iload_n 3, 1) := by decide +kernel
theorem dX11_on_16 : decode cX11_on 16 = .ok (.invokestatic 100, 3) := by decide +kernel
theorem dX11_on_19 : decode cX11_on 19 = .ok (.ifCond .ne 14, 3) := by decide +kernel
theorem dX11_on_22 : decode cX11_on 22 = .ok (.aload_n 0, 1) := by decide +kernel
theorem dX11_on_23 : decode cX11_on 23 = .ok (.iload 4, 2) := by decide +kernel
theorem dX11_on_25 : decode cX11_on 25 = .ok (.invokevirtual 111, 3) := by decide +kernel
theorem dX11_on_28 : decode cX11_on 28 = .ok (.ifCond .ne 5, 3) := by decide +kernel
theorem dX11_on_31 : decode cX11_on 31 = .ok (.iconst (-1), 1) := by decide +kernel
theorem dX11_on_32 : decode cX11_on 32 = .ok (.ireturn, 1) := by decide +kernel
theorem dX11_on_33 : decode cX11_on 33 = .ok (.iload_n 1, 1) := by decide +kernel
theorem dX11_on_34 : decode cX11_on 34 = .ok (.invokestatic 184, 3) := by decide +kernel
theorem dX11_on_37 : decode cX11_on 37 = .ok (.ifCond .ne 6, 3) := by decide +kernel
theorem dX11_on_40 : decode cX11_on 40 = .ok (.bipush (-2), 2) := by decide +kernel
theorem dX11_on_42 : decode cX11_on 42 = .ok (.ireturn, 1) := by decide +kernel
theorem dX11_on_43 : decode cX11_on 43 = .ok (.aload_n 0, 1) := by decide +kernel
theorem dX11_on_44 : decode cX11_on 44 = .ok (.getfield 94, 3) := by decide +kernel
theorem dX11_on_47 : decode cX11_on 47 = .ok (.aload_n 0, 1) := by decide +kernel
theorem dX11_on_48 : decode cX11_on 48 = .ok (.getfield 90, 3) := by decide +kernel
theorem dX11_on_51 : decode cX11_on 51 = .ok (.invokevirtual 187, 3) := by decide +kernel
theorem dX11_on_54 : decode cX11_on 54 = .ok (.aload_n 0, 1) := by decide +kernel
theorem dX11_on_55 : decode cX11_on 55 = .ok (.getfield 94, 3) := by decide +kernel
theorem dX11_on_58 : decode cX11_on 58 = .ok (.iload_n 1, 1) := by decide +kernel
theorem dX11_on_59 : decode cX11_on 59 = .ok (.invokevirtual 181, 3) := by decide +kernel
theorem dX11_on_62 : decode cX11_on 62 = .ok (.iload_n 3, 1) := by decide +kernel
theorem dX11_on_63 : decode cX11_on 63 = .ok (.invokestatic 100, 3) := by decide +kernel
theorem dX11_on_66 : decode cX11_on 66 = .ok (.ifCond .eq 13, 3) := by decide +kernel
theorem dX11_on_69 : decode cX11_on 69 = .ok (.aload_n 0, 1) := by decide +kernel
theorem dX11_on_70 : decode cX11_on 70 = .ok (.getfield 94, 3) := by decide +kernel
theorem dX11_on_73 : decode cX11_on 73 = .ok (.getfield 143, 3) := by decide +kernel
theorem dX11_on_76 : decode cX11_on 76 = .ok (.iload_n 3, 1) := by decide +kernel
theorem dX11_on_77 : decode cX11_on 77 = .ok (.iaload, 1) := by decide +kernel
theorem dX11_on_78 : decode cX11_on 78 = .ok (.ireturn, 1) := by decide +kernel
theorem dX11_on_79 : decode cX11_on 79 = .ok (.aload_n 0, 1) := by decide +kernel
theorem dX11_on_80 : decode cX11_on 80 = .ok (.iload 4, 2) := by decide +kernel
theorem dX11_on_82 : decode cX11_on 82 = .ok (.invokevirtual 111, 3) := by decide +kernel
theorem dX11_on_85 : decode cX11_on 85 = .ok (.ifCond .eq 16, 3) := by decide +kernel
theorem dX11_on_88 : decode cX11_on 88 = .ok (.aload_n 0, 1) := by decide +kernel
theorem dX11_on_89 : decode cX11_on 89 = .ok (.getfield 94, 3) := by decide +kernel
theorem dX11_on_92 : decode cX11_on 92 = .ok (.getfield 120, 3) := by decide +kernel
theorem dX11_on_95 : decode cX11_on 95 = .ok (.iload 4, 2) := by decide +kernel
theorem dX11_on_97 : decode cX11_on 97 = .ok (.iaload, 1) := by decide +kernel
theorem dX11_on_98 : decode cX11_on 98 = .ok (.goto 10, 3) := by decide +kernel
theorem dX11_on_101 : decode cX11_on 101 = .ok (.aload_n 0, 1) := by decide +kernel
theorem dX11_on_102 : decode cX11_on 102 = .ok (.getfield 94, 3) := by decide +kernel
theorem dX11_on_105 : decode cX11_on 105 = .ok (.invokevirtual 172, 3) := by decide +kernel
theorem dX11_on_108 : decode cX11_on 108 = .ok (.ireturn, 1) := by decide +kernel
theorem dX11_way_0 : decode cX11_way 0 = .ok (.aload_n 0, 1) := by decide +kernel
theorem dX11_way_1 : decode cX11_way 1 = .ok (.iload_n 1, 1) := by decide +kernel
theorem dX11_way_2 : decode cX11_way 2 = .ok (.invokevirtual 111, 3) := by decide +kernel
theorem dX11_way_5 : decode cX11_way 5 = .ok (.ifCond .eq 10, 3) := by decide +kernel
theorem dX11_way_8 : decode cX11_way 8 = .ok (.iload_n 2, 1) := by decide +kernel
theorem dX11_way_9 : decode cX11_way 9 = .ok (.invokestatic 100, 3) := by decide +kernel
theorem dX11_way_12 : decode cX11_way 12 = .ok (.ifCond .ne 5, 3) := by decide +kernel
theorem dX11_way_15 : decode cX11_way 15 = .ok (.iconst (-1), 1) := by decide +kernel
theorem dX11_way_16 : decode cX11_way 16 = .ok (.ireturn, 1) := by decide +kernel
theorem dX11_way_17 : decode cX11_way 17 = .ok (.iload_n 3, 1) := by decide +kernel
theorem dX11_way_18 : decode cX11_way 18 = .ok (.tableswitch 64 0 2 #[26, 47, 57], 26) := by decide +kernel
theorem dX11_way_44 : decode cX11_way 44 = .ok (.aload_n 0, 1) := by decide +kernel
theorem dX11_way_45 : decode cX11_way 45 = .ok (.getfield 94, 3) := by decide +kernel
theorem dX11_way_48 : decode cX11_way 48 = .ok (.aload_n 0, 1) := by decide +kernel
theorem dX11_way_49 : decode cX11_way 49 = .ok (.getfield 90, 3) := by decide +kernel
theorem dX11_way_52 : decode cX11_way 52 = .ok (.invokevirtual 187, 3) := by decide +kernel
theorem dX11_way_55 : decode cX11_way 55 = .ok (.aload_n 0, 1) := by decide +kernel
theorem dX11_way_56 : decode cX11_way 56 = .ok (.getfield 94, 3) := by decide +kernel
theorem dX11_way_59 : decode cX11_way 59 = .ok (.iload_n 1, 1) := by decide +kernel
theorem dX11_way_60 : decode cX11_way 60 = .ok (.iload_n 2, 1) := by decide +kernel
theorem dX11_way_61 : decode cX11_way 61 = .ok (.invokevirtual 191, 3) := by decide +kernel
theorem dX11_way_64 : decode cX11_way 64 = .ok (.ireturn, 1) := by decide +kernel
theorem dX11_way_65 : decode cX11_way 65 = .ok (.aload_n 0, 1) := by decide +kernel
theorem dX11_way_66 : decode cX11_way 66 = .ok (.getfield 90, 3) := by decide +kernel
theorem dX11_way_69 : decode cX11_way 69 = .ok (.iload_n 1, 1) := by decide +kernel
theorem dX11_way_70 : decode cX11_way 70 = .ok (.iload_n 2, 1) := by decide +kernel
theorem dX11_way_71 : decode cX11_way 71 = .ok (.invokevirtual 194, 3) := by decide +kernel
theorem dX11_way_74 : decode cX11_way 74 = .ok (.ireturn, 1) := by decide +kernel
theorem dX11_way_75 : decode cX11_way 75 = .ok (.aload_n 0, 1) := by decide +kernel
theorem dX11_way_76 : decode cX11_way 76 = .ok (.iload_n 1, 1) := by decide +kernel
theorem dX11_way_77 : decode cX11_way 77 = .ok (.iload_n 2, 1) := by decide +kernel
theorem dX11_way_78 : decode cX11_way 78 = .ok (.invokevirtual 197, 3) := by decide +kernel
theorem dX11_way_81 : decode cX11_way 81 = .ok (.ireturn, 1) := by decide +kernel
theorem dX11_way_82 : decode cX11_way 82 = .ok (.iconst (-1), 1) := by decide +kernel
theorem dX11_way_83 : decode cX11_way 83 = .ok (.ireturn, 1) := by decide +kernel
theorem dX11_night_0 : decode cX11_night 0 = .ok (.aload_n 0, 1) := by decide +kernel
theorem dX11_night_1 : decode cX11_night 1 = .ok (.iload_n 1, 1) := by decide +kernel
theorem dX11_night_2 : decode cX11_night 2 = .ok (.invokevirtual 111, 3) := by decide +kernel
theorem dX11_night_5 : decode cX11_night 5 = .ok (.ifCond .eq 10, 3) := by decide +kernel
theorem dX11_night_8 : decode cX11_night 8 = .ok (.iload_n 2, 1) := by decide +kernel
theorem dX11_night_9 : decode cX11_night 9 = .ok (.invokestatic 100, 3) := by decide +kernel
theorem dX11_night_12 : decode cX11_night 12 = .ok (.ifCond .ne 5, 3) := by decide +kernel
theorem dX11_night_15 : decode cX11_night 15 = .ok (.iconst (-1), 1) := by decide +kernel
theorem dX11_night_16 : decode cX11_night 16 = .ok (.ireturn, 1) := by decide +kernel
theorem dX11_night_17 : decode cX11_night 17 = .ok (.aload_n 0, 1) := by decide +kernel
theorem dX11_night_18 : decode cX11_night 18 = .ok (.getfield 90, 3) := by decide +kernel
theorem dX11_night_21 : decode cX11_night 21 = .ok (.getfield 120, 3) := by decide +kernel
theorem dX11_night_24 : decode cX11_night 24 = .ok (.iload_n 1, 1) := by decide +kernel
theorem dX11_night_25 : decode cX11_night 25 = .ok (.iaload, 1) := by decide +kernel
theorem dX11_night_26 : decode cX11_night 26 = .ok (.iload_n 2, 1) := by decide +kernel
theorem dX11_night_27 : decode cX11_night 27 = .ok (.invokestatic 200, 3) := by decide +kernel
theorem dX11_night_30 : decode cX11_night 30 = .ok (.ifCond .ne 6, 3) := by decide +kernel
theorem dX11_night_33 : decode cX11_night 33 = .ok (.bipush (-2), 2) := by decide +kernel
theorem dX11_night_35 : decode cX11_night 35 = .ok (.ireturn, 1) := by decide +kernel
theorem dX11_night_36 : decode cX11_night 36 = .ok (.aload_n 0, 1) := by decide +kernel
theorem dX11_night_37 : decode cX11_night 37 = .ok (.getfield 94, 3) := by decide +kernel
theorem dX11_night_40 : decode cX11_night 40 = .ok (.aload_n 0, 1) := by decide +kernel
theorem dX11_night_41 : decode cX11_night 41 = .ok (.getfield 90, 3) := by decide +kernel
theorem dX11_night_44 : decode cX11_night 44 = .ok (.invokevirtual 187, 3) := by decide +kernel
theorem dX11_night_47 : decode cX11_night 47 = .ok (.iconst 0, 1) := by decide +kernel
theorem dX11_night_48 : decode cX11_night 48 = .ok (.istore_n 3, 1) := by decide +kernel
theorem dX11_night_49 : decode cX11_night 49 = .ok (.iload_n 3, 1) := by decide +kernel
theorem dX11_night_50 : decode cX11_night 50 = .ok (.bipush 99, 2) := by decide +kernel
theorem dX11_night_52 : decode cX11_night 52 = .ok (.if_icmp .gt 50, 3) := by decide +kernel
theorem dX11_night_55 : decode cX11_night 55 = .ok (.aload_n 0, 1) := by decide +kernel
theorem dX11_night_56 : decode cX11_night 56 = .ok (.getfield 94, 3) := by decide +kernel
theorem dX11_night_59 : decode cX11_night 59 = .ok (.getfield 143, 3) := by decide +kernel
theorem dX11_night_62 : decode cX11_night 62 = .ok (.iload_n 2, 1) := by decide +kernel
theorem dX11_night_63 : decode cX11_night 63 = .ok (.aload_n 0, 1) := by decide +kernel
theorem dX11_night_64 : decode cX11_night 64 = .ok (.getfield 90, 3) := by decide +kernel
theorem dX11_night_67 : decode cX11_night 67 = .ok (.getfield 143, 3) := by decide +kernel
theorem dX11_night_70 : decode cX11_night 70 = .ok (.iload_n 2, 1) := by decide +kernel
theorem dX11_night_71 : decode cX11_night 71 = .ok (.iaload, 1) := by decide +kernel
theorem dX11_night_72 : decode cX11_night 72 = .ok (.iastore, 1) := by decide +kernel
theorem dX11_night_73 : decode cX11_night 73 = .ok (.aload_n 0, 1) := by decide +kernel
theorem dX11_night_74 : decode cX11_night 74 = .ok (.getfield 94, 3) := by decide +kernel
theorem dX11_night_77 : decode cX11_night 77 = .ok (.iload_n 2, 1) := by decide +kernel
theorem dX11_night_78 : decode cX11_night 78 = .ok (.iload_n 3, 1) := by decide +kernel
theorem dX11_night_79 : decode cX11_night 79 = .ok (.invokevirtual 204, 3) := by decide +kernel
theorem dX11_night_82 : decode cX11_night 82 = .ok (.aload_n 0, 1) := by decide +kernel
theorem dX11_night_83 : decode cX11_night 83 = .ok (.getfield 94, 3) := by decide +kernel
theorem dX11_night_86 : decode cX11_night 86 = .ok (.iload_n 1, 1) := by decide +kernel
theorem dX11_night_87 : decode cX11_night 87 = .ok (.invokevirtual 127, 3) := by decide +kernel
theorem dX11_night_90 : decode cX11_night 90 = .ok (.iload_n 2, 1) := by decide +kernel
theorem dX11_night_91 : decode cX11_night 91 = .ok (.if_icmp .ne 5, 3) := by decide +kernel
theorem dX11_night_94 : decode cX11_night 94 = .ok (.iload_n 3, 1) := by decide +kernel
theorem dX11_night_95 : decode cX11_night 95 = .ok (.ireturn, 1) := by decide +kernel
theorem dX11_night_96 : decode cX11_night 96 = .ok (.iinc 3 1, 3) := by decide +kernel
theorem dX11_night_99 : decode cX11_night 99 = .ok (.goto (-50), 3) := by decide +kernel
theorem dX11_night_102 : decode cX11_night 102 = .ok (.bipush (-5), 2) := by decide +kernel
theorem dX11_night_104 : decode cX11_night 104 = .ok (.ireturn, 1) := by decide +kernel
theorem dX11_see_0 : decode cX11_see 0 = .ok (.iload_n 1, 1) := by decide +kernel
theorem dX11_see_1 : decode cX11_see 1 = .ok (.iconst (-1), 1) := by decide +kernel
theorem dX11_see_2 : decode cX11_see 2 = .ok (.if_icmp .ne 11, 3) := by decide +kernel
theorem dX11_see_5 : decode cX11_see 5 = .ok (.aload_n 0, 1) := by decide +kernel
theorem dX11_see_6 : decode cX11_see 6 = .ok (.getfield 16, 3) := by decide +kernel
theorem dX11_see_9 : decode cX11_see 9 = .ok (.invokevirtual 207, 3) := by decide +kernel
theorem dX11_see_12 : decode cX11_see 12 = .ok (.ireturn, 1) := by decide +kernel
theorem dX11_see_13 : decode cX11_see 13 = .ok (.aload_n 0, 1) := by decide +kernel
theorem dX11_see_14 : decode cX11_see 14 = .ok (.iload_n 1, 1) := by decide +kernel
theorem dX11_see_15 : decode cX11_see 15 = .ok (.invokevirtual 111, 3) := by decide +kernel
theorem dX11_see_18 : decode cX11_see 18 = .ok (.ifCond .eq 10, 3) := by decide +kernel
theorem dX11_see_21 : decode cX11_see 21 = .ok (.iload_n 3, 1) := by decide +kernel
theorem dX11_see_22 : decode cX11_see 22 = .ok (.invokestatic 100, 3) := by decide +kernel
theorem dX11_see_25 : decode cX11_see 25 = .ok (.ifCond .ne 5, 3) := by decide +kernel
theorem dX11_see_28 : decode cX11_see 28 = .ok (.iconst (-1), 1) := by decide +kernel
theorem dX11_see_29 : decode cX11_see 29 = .ok (.ireturn, 1) := by decide +kernel
theorem dX11_see_30 : decode cX11_see 30 = .ok (.iload_n 2, 1) := by decide +kernel
theorem dX11_see_31 : decode cX11_see 31 = .ok (.ifCond .lt 9, 3) := by decide +kernel
theorem dX11_see_34 : decode cX11_see 34 = .ok (.iload_n 2, 1) := by decide +kernel
theorem dX11_see_35 : decode cX11_see 35 = .ok (.bipush 8, 2) := by decide +kernel
theorem dX11_see_37 : decode cX11_see 37 = .ok (.if_icmp .le 6, 3) := by decide +kernel
theorem dX11_see_40 : decode cX11_see 40 = .ok (.bipush (-2), 2) := by decide +kernel
theorem dX11_see_42 : decode cX11_see 42 = .ok (.ireturn, 1) := by decide +kernel
theorem dX11_see_43 : decode cX11_see 43 = .ok (.aload_n 0, 1) := by decide +kernel
theorem dX11_see_44 : decode cX11_see 44 = .ok (.getfield 16, 3) := by decide +kernel
theorem dX11_see_47 : decode cX11_see 47 = .ok (.iload_n 1, 1) := by decide +kernel
theorem dX11_see_48 : decode cX11_see 48 = .ok (.iload_n 2, 1) := by decide +kernel
theorem dX11_see_49 : decode cX11_see 49 = .ok (.iload_n 3, 1) := by decide +kernel
theorem dX11_see_50 : decode cX11_see 50 = .ok (.invokevirtual 210, 3) := by decide +kernel
theorem dX11_see_53 : decode cX11_see 53 = .ok (.ireturn, 1) := by decide +kernel
theorem dX11_from_0 : decode cX11_from 0 = .ok (.aload_n 0, 1) := by decide +kernel
theorem dX11_from_1 : decode cX11_from 1 = .ok (.iload_n 1, 1) := by decide +kernel
theorem dX11_from_2 : decode cX11_from 2 = .ok (.invokevirtual 111, 3) := by decide +kernel
theorem dX11_from_5 : decode cX11_from 5 = .ok (.ifCond .ne 5, 3) := by decide +kernel
theorem dX11_from_8 : decode cX11_from 8 = .ok (.iconst (-1), 1) := by decide +kernel
theorem dX11_from_9 : decode cX11_from 9 = .ok (.ireturn, 1) := by decide +kernel
theorem dX11_from_10 : decode cX11_from 10 = .ok (.iconst 0, 1) := by decide +kernel
theorem dX11_from_11 : decode cX11_from 11 = .ok (.istore_n 2, 1) := by decide +kernel
theorem dX11_from_12 : decode cX11_from 12 = .ok (.iconst 0, 1) := by decide +kernel
theorem dX11_from_13 : decode cX11_from 13 = .ok (.istore_n 3, 1) := by decide +kernel
theorem dX11_from_14 : decode cX11_from 14 = .ok (.iload_n 3, 1) := by decide +kernel
theorem dX11_from_15 : decode cX11_from 15 = .ok (.bipush 25, 2) := by decide +kernel
theorem dX11_from_17 : decode cX11_from 17 = .ok (.if_icmp .ge 43, 3) := by decide +kernel
theorem dX11_from_20 : decode cX11_from 20 = .ok (.aload_n 0, 1) := by decide +kernel
theorem dX11_from_21 : decode cX11_from 21 = .ok (.getfield 94, 3) := by decide +kernel
theorem dX11_from_24 : decode cX11_from 24 = .ok (.aload_n 0, 1) := by decide +kernel
theorem dX11_from_25 : decode cX11_from 25 = .ok (.getfield 90, 3) := by decide +kernel
theorem dX11_from_28 : decode cX11_from 28 = .ok (.invokevirtual 187, 3) := by decide +kernel
theorem dX11_from_31 : decode cX11_from 31 = .ok (.aload_n 0, 1) := by decide +kernel
theorem dX11_from_32 : decode cX11_from 32 = .ok (.getfield 94, 3) := by decide +kernel
theorem dX11_from_35 : decode cX11_from 35 = .ok (.getfield 120, 3) := by decide +kernel
theorem dX11_from_38 : decode cX11_from 38 = .ok (.iload_n 1, 1) := by decide +kernel
theorem dX11_from_39 : decode cX11_from 39 = .ok (.iload_n 3, 1) := by decide +kernel
theorem dX11_from_40 : decode cX11_from 40 = .ok (.iastore, 1) := by decide +kernel
theorem dX11_from_41 : decode cX11_from 41 = .ok (.aload_n 0, 1) := by decide +kernel
theorem dX11_from_42 : decode cX11_from 42 = .ok (.invokevirtual 213, 3) := by decide +kernel
theorem dX11_from_45 : decode cX11_from 45 = .ok (.ifCond .eq 9, 3) := by decide +kernel
theorem dX11_from_48 : decode cX11_from 48 = .ok (.iload_n 2, 1) := by decide +kernel
theorem dX11_from_49 : decode cX11_from 49 = .ok (.iconst 1, 1) := by decide +kernel
theorem dX11_from_50 : decode cX11_from 50 = .ok (.iload_n 3, 1) := by decide +kernel
theorem dX11_from_51 : decode cX11_from 51 = .ok (.ishl, 1) := by decide +kernel
theorem dX11_from_52 : decode cX11_from 52 = .ok (.ior, 1) := by decide +kernel
theorem dX11_from_53 : decode cX11_from 53 = .ok (.istore_n 2, 1) := by decide +kernel
theorem dX11_from_54 : decode cX11_from 54 = .ok (.iinc 3 1, 3) := by decide +kernel
theorem dX11_from_57 : decode cX11_from 57 = .ok (.goto (-43), 3) := by decide +kernel
theorem dX11_from_60 : decode cX11_from 60 = .ok (.iload_n 2, 1) := by decide +kernel
theorem dX11_from_61 : decode cX11_from 61 = .ok (.ireturn, 1) := by decide +kernel
theorem dX11_can_0 : decode cX11_can 0 = .ok (.aload_n 0, 1) := by decide +kernel
theorem dX11_can_1 : decode cX11_can 1 = .ok (.iload_n 1, 1) := by decide +kernel
theorem dX11_can_2 : decode cX11_can 2 = .ok (.invokevirtual 111, 3) := by decide +kernel
theorem dX11_can_5 : decode cX11_can 5 = .ok (.ifCond .eq 12, 3) := by decide +kernel
theorem dX11_can_8 : decode cX11_can 8 = .ok (.iload_n 2, 1) := by decide +kernel
theorem dX11_can_9 : decode cX11_can 9 = .ok (.ifCond .lt 8, 3) := by decide +kernel
theorem dX11_can_12 : decode cX11_can 12 = .ok (.iload_n 2, 1) := by decide +kernel
theorem dX11_can_13 : decode cX11_can 13 = .ok (.iconst 1, 1) := by decide +kernel
theorem dX11_can_14 : decode cX11_can 14 = .ok (.if_icmp .le 5, 3) := by decide +kernel
theorem dX11_can_17 : decode cX11_can 17 = .ok (.iconst (-1), 1) := by decide +kernel
theorem dX11_can_18 : decode cX11_can 18 = .ok (.ireturn, 1) := by decide +kernel
theorem dX11_can_19 : decode cX11_can 19 = .ok (.iconst 0, 1) := by decide +kernel
theorem dX11_can_20 : decode cX11_can 20 = .ok (.istore_n 3, 1) := by decide +kernel
theorem dX11_can_21 : decode cX11_can 21 = .ok (.bipush (-5), 2) := by decide +kernel
theorem dX11_can_23 : decode cX11_can 23 = .ok (.istore 4, 2) := by decide +kernel
theorem dX11_can_25 : decode cX11_can 25 = .ok (.bipush 9, 2) := by decide +kernel
theorem dX11_can_27 : decode cX11_can 27 = .ok (.istore 5, 2) := by decide +kernel
theorem dX11_can_29 : decode cX11_can 29 = .ok (.iload 5, 2) := by decide +kernel
theorem dX11_can_31 : decode cX11_can 31 = .ok (.ifCond .lt 45, 3) := by decide +kernel
theorem dX11_can_34 : decode cX11_can 34 = .ok (.aload_n 0, 1) := by decide +kernel
theorem dX11_can_35 : decode cX11_can 35 = .ok (.getfield 94, 3) := by decide +kernel
theorem dX11_can_38 : decode cX11_can 38 = .ok (.aload_n 0, 1) := by decide +kernel
theorem dX11_can_39 : decode cX11_can 39 = .ok (.getfield 90, 3) := by decide +kernel
theorem dX11_can_42 : decode cX11_can 42 = .ok (.invokevirtual 187, 3) := by decide +kernel
theorem dX11_can_45 : decode cX11_can 45 = .ok (.aload_n 0, 1) := by decide +kernel
theorem dX11_can_46 : decode cX11_can 46 = .ok (.getfield 94, 3) := by decide +kernel
theorem dX11_can_49 : decode cX11_can 49 = .ok (.getfield 117, 3) := by decide +kernel
theorem dX11_can_52 : decode cX11_can 52 = .ok (.iload_n 1, 1) := by decide +kernel
theorem dX11_can_53 : decode cX11_can 53 = .ok (.iload 5, 2) := by decide +kernel
theorem dX11_can_55 : decode cX11_can 55 = .ok (.iastore, 1) := by decide +kernel
theorem dX11_can_56 : decode cX11_can 56 = .ok (.aload_n 0, 1) := by decide +kernel
theorem dX11_can_57 : decode cX11_can 57 = .ok (.invokevirtual 213, 3) := by decide +kernel
theorem dX11_can_60 : decode cX11_can 60 = .ok (.ifCond .eq 10, 3) := by decide +kernel
theorem dX11_can_63 : decode cX11_can 63 = .ok (.iinc 3 1, 3) := by decide +kernel
theorem dX11_can_66 : decode cX11_can 66 = .ok (.iload 5, 2) := by decide +kernel
theorem dX11_can_68 : decode cX11_can 68 = .ok (.istore 4, 2) := by decide +kernel
theorem dX11_can_70 : decode cX11_can 70 = .ok (.iinc 5 (-1), 3) := by decide +kernel
theorem dX11_can_73 : decode cX11_can 73 = .ok (.goto (-44), 3) := by decide +kernel
theorem dX11_can_76 : decode cX11_can 76 = .ok (.iload_n 2, 1) := by decide +kernel
theorem dX11_can_77 : decode cX11_can 77 = .ok (.ifCond .ne 7, 3) := by decide +kernel
theorem dX11_can_80 : decode cX11_can 80 = .ok (.iload_n 3, 1) := by decide +kernel
theorem dX11_can_81 : decode cX11_can 81 = .ok (.goto 5, 3) := by decide +kernel
theorem dX11_can_84 : decode cX11_can 84 = .ok (.iload 4, 2) := by decide +kernel
theorem dX11_can_86 : decode cX11_can 86 = .ok (.ireturn, 1) := by decide +kernel
theorem dX11_odds_0 : decode cX11_odds 0 = .ok (.aload_n 0, 1) := by decide +kernel
theorem dX11_odds_1 : decode cX11_odds 1 = .ok (.iload_n 1, 1) := by decide +kernel
theorem dX11_odds_2 : decode cX11_odds 2 = .ok (.invokevirtual 111, 3) := by decide +kernel
theorem dX11_odds_5 : decode cX11_odds 5 = .ok (.ifCond .eq 17, 3) := by decide +kernel
theorem dX11_odds_8 : decode cX11_odds 8 = .ok (.iload_n 2, 1) := by decide +kernel
theorem dX11_odds_9 : decode cX11_odds 9 = .ok (.invokestatic 100, 3) := by decide +kernel
theorem dX11_odds_12 : decode cX11_odds 12 = .ok (.ifCond .eq 10, 3) := by decide +kernel
theorem dX11_odds_15 : decode cX11_odds 15 = .ok (.iload_n 3, 1) := by decide +kernel
theorem dX11_odds_16 : decode cX11_odds 16 = .ok (.invokestatic 217, 3) := by decide +kernel
theorem dX11_odds_19 : decode cX11_odds 19 = .ok (.ifCond .ne 7, 3) := by decide +kernel
theorem dX11_odds_22 : decode cX11_odds 22 = .ok (.ldc2_w 220, 3) := by decide +kernel
theorem dX11_odds_25 : decode cX11_odds 25 = .ok (.lreturn, 1) := by decide +kernel
theorem dX11_odds_26 : decode cX11_odds 26 = .ok (.aload_n 0, 1) := by decide +kernel
theorem dX11_odds_27 : decode cX11_odds 27 = .ok (.getfield 94, 3) := by decide +kernel
theorem dX11_odds_30 : decode cX11_odds 30 = .ok (.aload_n 0, 1) := by decide +kernel
theorem dX11_odds_31 : decode cX11_odds 31 = .ok (.getfield 90, 3) := by decide +kernel
theorem dX11_odds_34 : decode cX11_odds 34 = .ok (.invokevirtual 187, 3) := by decide +kernel
theorem dX11_odds_37 : decode cX11_odds 37 = .ok (.iconst 0, 1) := by decide +kernel
theorem dX11_odds_38 : decode cX11_odds 38 = .ok (.istore 4, 2) := by decide +kernel
theorem dX11_odds_40 : decode cX11_odds 40 = .ok (.iconst 0, 1) := by decide +kernel
theorem dX11_odds_41 : decode cX11_odds 41 = .ok (.istore 5, 2) := by decide +kernel
theorem dX11_odds_43 : decode cX11_odds 43 = .ok (.iload 5, 2) := by decide +kernel
theorem dX11_odds_45 : decode cX11_odds 45 = .ok (.bipush 25, 2) := by decide +kernel
theorem dX11_odds_47 : decode cX11_odds 47 = .ok (.if_icmp .ge 55, 3) := by decide +kernel
theorem dX11_odds_50 : decode cX11_odds 50 = .ok (.aload_n 0, 1) := by decide +kernel
theorem dX11_odds_51 : decode cX11_odds 51 = .ok (.getfield 94, 3) := by decide +kernel
theorem dX11_odds_54 : decode cX11_odds 54 = .ok (.iload 5, 2) := by decide +kernel
theorem dX11_odds_56 : decode cX11_odds 56 = .ok (.bipush 10, 2) := by decide +kernel
theorem dX11_odds_58 : decode cX11_odds 58 = .ok (.invokevirtual 204, 3) := by decide +kernel
theorem dX11_odds_61 : decode cX11_odds 61 = .ok (.aload_n 0, 1) := by decide +kernel
theorem dX11_odds_62 : decode cX11_odds 62 = .ok (.getfield 94, 3) := by decide +kernel
theorem dX11_odds_65 : decode cX11_odds 65 = .ok (.iload_n 1, 1) := by decide +kernel
theorem dX11_odds_66 : decode cX11_odds 66 = .ok (.invokevirtual 127, 3) := by decide +kernel
theorem dX11_odds_69 : decode cX11_odds 69 = .ok (.iload_n 2, 1) := by decide +kernel
theorem dX11_odds_70 : decode cX11_odds 70 = .ok (.if_icmp .ne 6, 3) := by decide +kernel
theorem dX11_odds_73 : decode cX11_odds 73 = .ok (.iinc 4 1, 3) := by decide +kernel
theorem dX11_odds_76 : decode cX11_odds 76 = .ok (.aload_n 0, 1) := by decide +kernel
theorem dX11_odds_77 : decode cX11_odds 77 = .ok (.getfield 94, 3) := by decide +kernel
theorem dX11_odds_80 : decode cX11_odds 80 = .ok (.getfield 143, 3) := by decide +kernel
theorem dX11_odds_83 : decode cX11_odds 83 = .ok (.iload 5, 2) := by decide +kernel
theorem dX11_odds_85 : decode cX11_odds 85 = .ok (.aload_n 0, 1) := by decide +kernel
theorem dX11_odds_86 : decode cX11_odds 86 = .ok (.getfield 90, 3) := by decide +kernel
theorem dX11_odds_89 : decode cX11_odds 89 = .ok (.getfield 143, 3) := by decide +kernel
theorem dX11_odds_92 : decode cX11_odds 92 = .ok (.iload 5, 2) := by decide +kernel
theorem dX11_odds_94 : decode cX11_odds 94 = .ok (.iaload, 1) := by decide +kernel
theorem dX11_odds_95 : decode cX11_odds 95 = .ok (.iastore, 1) := by decide +kernel
theorem dX11_odds_96 : decode cX11_odds 96 = .ok (.iinc 5 1, 3) := by decide +kernel
theorem dX11_odds_99 : decode cX11_odds 99 = .ok (.goto (-56), 3) := by decide +kernel
theorem dX11_odds_102 : decode cX11_odds 102 = .ok (.iload 4, 2) := by decide +kernel
theorem dX11_odds_104 : decode cX11_odds 104 = .ok (.iload_n 3, 1) := by decide +kernel
theorem dX11_odds_105 : decode cX11_odds 105 = .ok (.invokestatic 222, 3) := by decide +kernel
theorem dX11_odds_108 : decode cX11_odds 108 = .ok (.lreturn, 1) := by decide +kernel
theorem dX11_mean_0 : decode cX11_mean 0 = .ok (.iload_n 1, 1) := by decide +kernel
theorem dX11_mean_1 : decode cX11_mean 1 = .ok (.invokestatic 184, 3) := by decide +kernel
theorem dX11_mean_4 : decode cX11_mean 4 = .ok (.ifCond .eq 10, 3) := by decide +kernel
theorem dX11_mean_7 : decode cX11_mean 7 = .ok (.iload_n 2, 1) := by decide +kernel
theorem dX11_mean_8 : decode cX11_mean 8 = .ok (.invokestatic 217, 3) := by decide +kernel
theorem dX11_mean_11 : decode cX11_mean 11 = .ok (.ifCond .ne 7, 3) := by decide +kernel
theorem dX11_mean_14 : decode cX11_mean 14 = .ok (.ldc2_w 220, 3) := by decide +kernel
theorem dX11_mean_17 : decode cX11_mean 17 = .ok (.lreturn, 1) := by decide +kernel
theorem dX11_mean_18 : decode cX11_mean 18 = .ok (.aload_n 0, 1) := by decide +kernel
theorem dX11_mean_19 : decode cX11_mean 19 = .ok (.getfield 94, 3) := by decide +kernel
theorem dX11_mean_22 : decode cX11_mean 22 = .ok (.aload_n 0, 1) := by decide +kernel
theorem dX11_mean_23 : decode cX11_mean 23 = .ok (.getfield 90, 3) := by decide +kernel
theorem dX11_mean_26 : decode cX11_mean 26 = .ok (.invokevirtual 187, 3) := by decide +kernel
theorem dX11_mean_29 : decode cX11_mean 29 = .ok (.aload_n 0, 1) := by decide +kernel
theorem dX11_mean_30 : decode cX11_mean 30 = .ok (.getfield 94, 3) := by decide +kernel
theorem dX11_mean_33 : decode cX11_mean 33 = .ok (.iload_n 1, 1) := by decide +kernel
theorem dX11_mean_34 : decode cX11_mean 34 = .ok (.invokevirtual 181, 3) := by decide +kernel
theorem dX11_mean_37 : decode cX11_mean 37 = .ok (.aload_n 0, 1) := by decide +kernel
theorem dX11_mean_38 : decode cX11_mean 38 = .ok (.getfield 94, 3) := by decide +kernel
theorem dX11_mean_41 : decode cX11_mean 41 = .ok (.invokevirtual 175, 3) := by decide +kernel
theorem dX11_mean_44 : decode cX11_mean 44 = .ok (.iload_n 2, 1) := by decide +kernel
theorem dX11_mean_45 : decode cX11_mean 45 = .ok (.invokestatic 222, 3) := by decide +kernel
theorem dX11_mean_48 : decode cX11_mean 48 = .ok (.lreturn, 1) := by decide +kernel
theorem dX11_plan_0 : decode cX11_plan 0 = .ok (.iload_n 1, 1) := by decide +kernel
theorem dX11_plan_1 : decode cX11_plan 1 = .ok (.tableswitch 99 (-1) 3 #[35, 43, 54, 76, 76], 35) := by decide +kernel
theorem dX11_plan_36 : decode cX11_plan 36 = .ok (.aload_n 0, 1) := by decide +kernel
theorem dX11_plan_37 : decode cX11_plan 37 = .ok (.getfield 20, 3) := by decide +kernel
theorem dX11_plan_40 : decode cX11_plan 40 = .ok (.invokevirtual 207, 3) := by decide +kernel
theorem dX11_plan_43 : decode cX11_plan 43 = .ok (.ireturn, 1) := by decide +kernel
theorem dX11_plan_44 : decode cX11_plan 44 = .ok (.aload_n 0, 1) := by decide +kernel
theorem dX11_plan_45 : decode cX11_plan 45 = .ok (.getfield 20, 3) := by decide +kernel
theorem dX11_plan_48 : decode cX11_plan 48 = .ok (.iload_n 1, 1) := by decide +kernel
theorem dX11_plan_49 : decode cX11_plan 49 = .ok (.iconst 0, 1) := by decide +kernel
theorem dX11_plan_50 : decode cX11_plan 50 = .ok (.iconst 0, 1) := by decide +kernel
theorem dX11_plan_51 : decode cX11_plan 51 = .ok (.invokevirtual 210, 3) := by decide +kernel
theorem dX11_plan_54 : decode cX11_plan 54 = .ok (.ireturn, 1) := by decide +kernel
theorem dX11_plan_55 : decode cX11_plan 55 = .ok (.iload_n 2, 1) := by decide +kernel
theorem dX11_plan_56 : decode cX11_plan 56 = .ok (.invokestatic 100, 3) := by decide +kernel
theorem dX11_plan_59 : decode cX11_plan 59 = .ok (.ifCond .eq 16, 3) := by decide +kernel
theorem dX11_plan_62 : decode cX11_plan 62 = .ok (.aload_n 0, 1) := by decide +kernel
theorem dX11_plan_63 : decode cX11_plan 63 = .ok (.getfield 20, 3) := by decide +kernel
theorem dX11_plan_66 : decode cX11_plan 66 = .ok (.iload_n 1, 1) := by decide +kernel
theorem dX11_plan_67 : decode cX11_plan 67 = .ok (.iload_n 2, 1) := by decide +kernel
theorem dX11_plan_68 : decode cX11_plan 68 = .ok (.iconst 0, 1) := by decide +kernel
theorem dX11_plan_69 : decode cX11_plan 69 = .ok (.invokevirtual 210, 3) := by decide +kernel
theorem dX11_plan_72 : decode cX11_plan 72 = .ok (.goto 4, 3) := by decide +kernel
theorem dX11_plan_75 : decode cX11_plan 75 = .ok (.iconst (-1), 1) := by decide +kernel
theorem dX11_plan_76 : decode cX11_plan 76 = .ok (.ireturn, 1) := by decide +kernel
theorem dX11_plan_77 : decode cX11_plan 77 = .ok (.aload_n 0, 1) := by decide +kernel
theorem dX11_plan_78 : decode cX11_plan 78 = .ok (.iload_n 2, 1) := by decide +kernel
theorem dX11_plan_79 : decode cX11_plan 79 = .ok (.invokevirtual 111, 3) := by decide +kernel
theorem dX11_plan_82 : decode cX11_plan 82 = .ok (.ifCond .eq 16, 3) := by decide +kernel
theorem dX11_plan_85 : decode cX11_plan 85 = .ok (.aload_n 0, 1) := by decide +kernel
theorem dX11_plan_86 : decode cX11_plan 86 = .ok (.getfield 20, 3) := by decide +kernel
theorem dX11_plan_89 : decode cX11_plan 89 = .ok (.iload_n 1, 1) := by decide +kernel
theorem dX11_plan_90 : decode cX11_plan 90 = .ok (.iload_n 2, 1) := by decide +kernel
theorem dX11_plan_91 : decode cX11_plan 91 = .ok (.iconst 0, 1) := by decide +kernel
theorem dX11_plan_92 : decode cX11_plan 92 = .ok (.invokevirtual 210, 3) := by decide +kernel
theorem dX11_plan_95 : decode cX11_plan 95 = .ok (.goto 4, 3) := by decide +kernel
theorem dX11_plan_98 : decode cX11_plan 98 = .ok (.iconst (-1), 1) := by decide +kernel
theorem dX11_plan_99 : decode cX11_plan 99 = .ok (.ireturn, 1) := by decide +kernel
theorem dX11_plan_100 : decode cX11_plan 100 = .ok (.iconst (-1), 1) := by decide +kernel
theorem dX11_plan_101 : decode cX11_plan 101 = .ok (.ireturn, 1) := by decide +kernel
theorem dX11_ends_0 : decode cX11_ends 0 = .ok (.iload_n 1, 1) := by decide +kernel
theorem dX11_ends_1 : decode cX11_ends 1 = .ok (.ifCond .lt 8, 3) := by decide +kernel
theorem dX11_ends_4 : decode cX11_ends 4 = .ok (.iload_n 1, 1) := by decide +kernel
theorem dX11_ends_5 : decode cX11_ends 5 = .ok (.iconst 1, 1) := by decide +kernel
theorem dX11_ends_6 : decode cX11_ends 6 = .ok (.if_icmp .le 5, 3) := by decide +kernel
theorem dX11_ends_9 : decode cX11_ends 9 = .ok (.iconst (-1), 1) := by decide +kernel
theorem dX11_ends_10 : decode cX11_ends 10 = .ok (.ireturn, 1) := by decide +kernel
theorem dX11_ends_11 : decode cX11_ends 11 = .ok (.aload_n 0, 1) := by decide +kernel
theorem dX11_ends_12 : decode cX11_ends 12 = .ok (.getfield 94, 3) := by decide +kernel
theorem dX11_ends_15 : decode cX11_ends 15 = .ok (.aload_n 0, 1) := by decide +kernel
theorem dX11_ends_16 : decode cX11_ends 16 = .ok (.getfield 90, 3) := by decide +kernel
theorem dX11_ends_19 : decode cX11_ends 19 = .ok (.invokevirtual 187, 3) := by decide +kernel
theorem dX11_ends_22 : decode cX11_ends 22 = .ok (.iconst 0, 1) := by decide +kernel
theorem dX11_ends_23 : decode cX11_ends 23 = .ok (.istore_n 2, 1) := by decide +kernel
theorem dX11_ends_24 : decode cX11_ends 24 = .ok (.iload_n 2, 1) := by decide +kernel
theorem dX11_ends_25 : decode cX11_ends 25 = .ok (.aload_n 0, 1) := by decide +kernel
theorem dX11_ends_26 : decode cX11_ends 26 = .ok (.getfield 20, 3) := by decide +kernel
theorem dX11_ends_29 : decode cX11_ends 29 = .ok (.getfield 226, 3) := by decide +kernel
theorem dX11_ends_32 : decode cX11_ends 32 = .ok (.if_icmp .ge 31, 3) := by decide +kernel
theorem dX11_ends_35 : decode cX11_ends 35 = .ok (.aload_n 0, 1) := by decide +kernel
theorem dX11_ends_36 : decode cX11_ends 36 = .ok (.aload_n 0, 1) := by decide +kernel
theorem dX11_ends_37 : decode cX11_ends 37 = .ok (.getfield 20, 3) := by decide +kernel
theorem dX11_ends_40 : decode cX11_ends 40 = .ok (.iload_n 2, 1) := by decide +kernel
theorem dX11_ends_41 : decode cX11_ends 41 = .ok (.iconst 0, 1) := by decide +kernel
theorem dX11_ends_42 : decode cX11_ends 42 = .ok (.invokevirtual 229, 3) := by decide +kernel
end
section
theorem dX11_ends_45 : decode cX11_ends 45 = .ok (.aload_n 0, 1) := by decide +kernel
theorem dX11_ends_46 : decode cX11_ends 46 = .ok (.getfield 20, 3) := by decide +kernel
theorem dX11_ends_49 : decode cX11_ends 49 = .ok (.iload_n 2, 1) := by decide +kernel
theorem dX11_ends_50 : decode cX11_ends 50 = .ok (.iconst 1, 1) := by decide +kernel
theorem dX11_ends_51 : decode cX11_ends 51 = .ok (.invokevirtual 229, 3) := by decide +kernel
theorem dX11_ends_54 : decode cX11_ends 54 = .ok (.invokevirtual 232, 3) := by decide +kernel
theorem dX11_ends_57 : decode cX11_ends 57 = .ok (.iinc 2 1, 3) := by decide +kernel
theorem dX11_ends_60 : decode cX11_ends 60 = .ok (.goto (-36), 3) := by decide +kernel
theorem dX11_ends_63 : decode cX11_ends 63 = .ok (.iload_n 1, 1) := by decide +kernel
theorem dX11_ends_64 : decode cX11_ends 64 = .ok (.ifCond .ne 13, 3) := by decide +kernel
theorem dX11_ends_67 : decode cX11_ends 67 = .ok (.aload_n 0, 1) := by decide +kernel
theorem dX11_ends_68 : decode cX11_ends 68 = .ok (.getfield 94, 3) := by decide +kernel
theorem dX11_ends_71 : decode cX11_ends 71 = .ok (.invokevirtual 175, 3) := by decide +kernel
theorem dX11_ends_74 : decode cX11_ends 74 = .ok (.goto 10, 3) := by decide +kernel
theorem dX11_ends_77 : decode cX11_ends 77 = .ok (.aload_n 0, 1) := by decide +kernel
theorem dX11_ends_78 : decode cX11_ends 78 = .ok (.getfield 94, 3) := by decide +kernel
theorem dX11_ends_81 : decode cX11_ends 81 = .ok (.invokevirtual 172, 3) := by decide +kernel
theorem dX11_ends_84 : decode cX11_ends 84 = .ok (.ireturn, 1) := by decide +kernel
theorem dX11_book_0 : decode cX11_book 0 = .ok (.iload_n 1, 1) := by decide +kernel
theorem dX11_book_1 : decode cX11_book 1 = .ok (.iconst (-1), 1) := by decide +kernel
theorem dX11_book_2 : decode cX11_book 2 = .ok (.if_icmp .ne 11, 3) := by decide +kernel
theorem dX11_book_5 : decode cX11_book 5 = .ok (.aload_n 0, 1) := by decide +kernel
theorem dX11_book_6 : decode cX11_book 6 = .ok (.getfield 23, 3) := by decide +kernel
theorem dX11_book_9 : decode cX11_book 9 = .ok (.invokevirtual 207, 3) := by decide +kernel
theorem dX11_book_12 : decode cX11_book 12 = .ok (.ireturn, 1) := by decide +kernel
theorem dX11_book_13 : decode cX11_book 13 = .ok (.aload_n 0, 1) := by decide +kernel
theorem dX11_book_14 : decode cX11_book 14 = .ok (.iload_n 1, 1) := by decide +kernel
theorem dX11_book_15 : decode cX11_book 15 = .ok (.invokevirtual 111, 3) := by decide +kernel
theorem dX11_book_18 : decode cX11_book 18 = .ok (.ifCond .eq 10, 3) := by decide +kernel
theorem dX11_book_21 : decode cX11_book 21 = .ok (.iload_n 2, 1) := by decide +kernel
theorem dX11_book_22 : decode cX11_book 22 = .ok (.invokestatic 100, 3) := by decide +kernel
theorem dX11_book_25 : decode cX11_book 25 = .ok (.ifCond .ne 5, 3) := by decide +kernel
theorem dX11_book_28 : decode cX11_book 28 = .ok (.iconst (-1), 1) := by decide +kernel
theorem dX11_book_29 : decode cX11_book 29 = .ok (.ireturn, 1) := by decide +kernel
theorem dX11_book_30 : decode cX11_book 30 = .ok (.aload_n 0, 1) := by decide +kernel
theorem dX11_book_31 : decode cX11_book 31 = .ok (.getfield 23, 3) := by decide +kernel
theorem dX11_book_34 : decode cX11_book 34 = .ok (.iload_n 1, 1) := by decide +kernel
theorem dX11_book_35 : decode cX11_book 35 = .ok (.iload_n 2, 1) := by decide +kernel
theorem dX11_book_36 : decode cX11_book 36 = .ok (.iconst 0, 1) := by decide +kernel
theorem dX11_book_37 : decode cX11_book 37 = .ok (.invokevirtual 210, 3) := by decide +kernel
theorem dX11_book_40 : decode cX11_book 40 = .ok (.ireturn, 1) := by decide +kernel
theorem dX11_looked_0 : decode cX11_looked 0 = .ok (.iconst 0, 1) := by decide +kernel
theorem dX11_looked_1 : decode cX11_looked 1 = .ok (.istore_n 1, 1) := by decide +kernel
theorem dX11_looked_2 : decode cX11_looked 2 = .ok (.iload_n 1, 1) := by decide +kernel
theorem dX11_looked_3 : decode cX11_looked 3 = .ok (.aload_n 0, 1) := by decide +kernel
theorem dX11_looked_4 : decode cX11_looked 4 = .ok (.getfield 23, 3) := by decide +kernel
theorem dX11_looked_7 : decode cX11_looked 7 = .ok (.getfield 226, 3) := by decide +kernel
theorem dX11_looked_10 : decode cX11_looked 10 = .ok (.if_icmp .ge 40, 3) := by decide +kernel
theorem dX11_looked_13 : decode cX11_looked 13 = .ok (.aload_n 0, 1) := by decide +kernel
theorem dX11_looked_14 : decode cX11_looked 14 = .ok (.getfield 90, 3) := by decide +kernel
theorem dX11_looked_17 : decode cX11_looked 17 = .ok (.getfield 120, 3) := by decide +kernel
theorem dX11_looked_20 : decode cX11_looked 20 = .ok (.aload_n 0, 1) := by decide +kernel
theorem dX11_looked_21 : decode cX11_looked 21 = .ok (.getfield 23, 3) := by decide +kernel
theorem dX11_looked_24 : decode cX11_looked 24 = .ok (.iload_n 1, 1) := by decide +kernel
theorem dX11_looked_25 : decode cX11_looked 25 = .ok (.iconst 0, 1) := by decide +kernel
theorem dX11_looked_26 : decode cX11_looked 26 = .ok (.invokevirtual 229, 3) := by decide +kernel
theorem dX11_looked_29 : decode cX11_looked 29 = .ok (.iaload, 1) := by decide +kernel
theorem dX11_looked_30 : decode cX11_looked 30 = .ok (.aload_n 0, 1) := by decide +kernel
theorem dX11_looked_31 : decode cX11_looked 31 = .ok (.getfield 23, 3) := by decide +kernel
theorem dX11_looked_34 : decode cX11_looked 34 = .ok (.iload_n 1, 1) := by decide +kernel
theorem dX11_looked_35 : decode cX11_looked 35 = .ok (.iconst 1, 1) := by decide +kernel
theorem dX11_looked_36 : decode cX11_looked 36 = .ok (.invokevirtual 229, 3) := by decide +kernel
theorem dX11_looked_39 : decode cX11_looked 39 = .ok (.if_icmp .eq 5, 3) := by decide +kernel
theorem dX11_looked_42 : decode cX11_looked 42 = .ok (.iload_n 1, 1) := by decide +kernel
theorem dX11_looked_43 : decode cX11_looked 43 = .ok (.ireturn, 1) := by decide +kernel
theorem dX11_looked_44 : decode cX11_looked 44 = .ok (.iinc 1 1, 3) := by decide +kernel
theorem dX11_looked_47 : decode cX11_looked 47 = .ok (.goto (-45), 3) := by decide +kernel
theorem dX11_looked_50 : decode cX11_looked 50 = .ok (.bipush (-5), 2) := by decide +kernel
theorem dX11_looked_52 : decode cX11_looked 52 = .ok (.ireturn, 1) := by decide +kernel
theorem dX11_judge_0 : decode cX11_judge 0 = .ok (.iload_n 1, 1) := by decide +kernel
theorem dX11_judge_1 : decode cX11_judge 1 = .ok (.invokestatic 235, 3) := by decide +kernel
theorem dX11_judge_4 : decode cX11_judge 4 = .ok (.ifCond .ne 5, 3) := by decide +kernel
theorem dX11_judge_7 : decode cX11_judge 7 = .ok (.iconst (-1), 1) := by decide +kernel
theorem dX11_judge_8 : decode cX11_judge 8 = .ok (.ireturn, 1) := by decide +kernel
theorem dX11_judge_9 : decode cX11_judge 9 = .ok (.aload_n 0, 1) := by decide +kernel
theorem dX11_judge_10 : decode cX11_judge 10 = .ok (.getfield 53, 3) := by decide +kernel
theorem dX11_judge_13 : decode cX11_judge 13 = .ok (.iload_n 1, 1) := by decide +kernel
theorem dX11_judge_14 : decode cX11_judge 14 = .ok (.iaload, 1) := by decide +kernel
theorem dX11_judge_15 : decode cX11_judge 15 = .ok (.iconst (-1), 1) := by decide +kernel
theorem dX11_judge_16 : decode cX11_judge 16 = .ok (.if_icmp .ne 6, 3) := by decide +kernel
theorem dX11_judge_19 : decode cX11_judge 19 = .ok (.bipush 100, 2) := by decide +kernel
theorem dX11_judge_21 : decode cX11_judge 21 = .ok (.ireturn, 1) := by decide +kernel
theorem dX11_judge_22 : decode cX11_judge 22 = .ok (.aload_n 0, 1) := by decide +kernel
theorem dX11_judge_23 : decode cX11_judge 23 = .ok (.getfield 53, 3) := by decide +kernel
theorem dX11_judge_26 : decode cX11_judge 26 = .ok (.iload_n 1, 1) := by decide +kernel
theorem dX11_judge_27 : decode cX11_judge 27 = .ok (.iaload, 1) := by decide +kernel
theorem dX11_judge_28 : decode cX11_judge 28 = .ok (.ifCond .eq 6, 3) := by decide +kernel
theorem dX11_judge_31 : decode cX11_judge 31 = .ok (.bipush (-12), 2) := by decide +kernel
theorem dX11_judge_33 : decode cX11_judge 33 = .ok (.ireturn, 1) := by decide +kernel
theorem dX11_judge_34 : decode cX11_judge 34 = .ok (.iload_n 2, 1) := by decide +kernel
theorem dX11_judge_35 : decode cX11_judge 35 = .ok (.ifCond .ge 6, 3) := by decide +kernel
theorem dX11_judge_38 : decode cX11_judge 38 = .ok (.bipush 100, 2) := by decide +kernel
theorem dX11_judge_40 : decode cX11_judge 40 = .ok (.ireturn, 1) := by decide +kernel
theorem dX11_judge_41 : decode cX11_judge 41 = .ok (.iconst 0, 1) := by decide +kernel
theorem dX11_judge_42 : decode cX11_judge 42 = .ok (.istore_n 3, 1) := by decide +kernel
theorem dX11_judge_43 : decode cX11_judge 43 = .ok (.iload_n 3, 1) := by decide +kernel
theorem dX11_judge_44 : decode cX11_judge 44 = .ok (.bipush 25, 2) := by decide +kernel
theorem dX11_judge_46 : decode cX11_judge 46 = .ok (.if_icmp .ge 55, 3) := by decide +kernel
theorem dX11_judge_49 : decode cX11_judge 49 = .ok (.iload_n 2, 1) := by decide +kernel
theorem dX11_judge_50 : decode cX11_judge 50 = .ok (.aload_n 0, 1) := by decide +kernel
theorem dX11_judge_51 : decode cX11_judge 51 = .ok (.getfield 57, 3) := by decide +kernel
theorem dX11_judge_54 : decode cX11_judge 54 = .ok (.iload_n 1, 1) := by decide +kernel
theorem dX11_judge_55 : decode cX11_judge 55 = .ok (.iaload, 1) := by decide +kernel
theorem dX11_judge_56 : decode cX11_judge 56 = .ok (.iload_n 3, 1) := by decide +kernel
theorem dX11_judge_57 : decode cX11_judge 57 = .ok (.isub, 1) := by decide +kernel
theorem dX11_judge_58 : decode cX11_judge 58 = .ok (.if_icmp .lt 8, 3) := by decide +kernel
theorem dX11_judge_61 : decode cX11_judge 61 = .ok (.bipush 100, 2) := by decide +kernel
theorem dX11_judge_63 : decode cX11_judge 63 = .ok (.iload_n 3, 1) := by decide +kernel
theorem dX11_judge_64 : decode cX11_judge 64 = .ok (.iadd, 1) := by decide +kernel
theorem dX11_judge_65 : decode cX11_judge 65 = .ok (.ireturn, 1) := by decide +kernel
theorem dX11_judge_66 : decode cX11_judge 66 = .ok (.aload_n 0, 1) := by decide +kernel
theorem dX11_judge_67 : decode cX11_judge 67 = .ok (.getfield 60, 3) := by decide +kernel
theorem dX11_judge_70 : decode cX11_judge 70 = .ok (.iload_n 1, 1) := by decide +kernel
theorem dX11_judge_71 : decode cX11_judge 71 = .ok (.bipush 60, 2) := by decide +kernel
theorem dX11_judge_73 : decode cX11_judge 73 = .ok (.imul, 1) := by decide +kernel
theorem dX11_judge_74 : decode cX11_judge 74 = .ok (.iload_n 2, 1) := by decide +kernel
theorem dX11_judge_75 : decode cX11_judge 75 = .ok (.iadd, 1) := by decide +kernel
theorem dX11_judge_76 : decode cX11_judge 76 = .ok (.iload_n 3, 1) := by decide +kernel
theorem dX11_judge_77 : decode cX11_judge 77 = .ok (.iadd, 1) := by decide +kernel
theorem dX11_judge_78 : decode cX11_judge 78 = .ok (.laload, 1) := by decide +kernel
theorem dX11_judge_79 : decode cX11_judge 79 = .ok (.aload_n 0, 1) := by decide +kernel
theorem dX11_judge_80 : decode cX11_judge 80 = .ok (.getfield 90, 3) := by decide +kernel
theorem dX11_judge_83 : decode cX11_judge 83 = .ok (.getfield 143, 3) := by decide +kernel
theorem dX11_judge_86 : decode cX11_judge 86 = .ok (.iload_n 3, 1) := by decide +kernel
theorem dX11_judge_87 : decode cX11_judge 87 = .ok (.iaload, 1) := by decide +kernel
theorem dX11_judge_88 : decode cX11_judge 88 = .ok (.i2l, 1) := by decide +kernel
theorem dX11_judge_89 : decode cX11_judge 89 = .ok (.lcmp, 1) := by decide +kernel
theorem dX11_judge_90 : decode cX11_judge 90 = .ok (.ifCond .eq 5, 3) := by decide +kernel
theorem dX11_judge_93 : decode cX11_judge 93 = .ok (.iload_n 3, 1) := by decide +kernel
theorem dX11_judge_94 : decode cX11_judge 94 = .ok (.ireturn, 1) := by decide +kernel
theorem dX11_judge_95 : decode cX11_judge 95 = .ok (.iinc 3 1, 3) := by decide +kernel
theorem dX11_judge_98 : decode cX11_judge 98 = .ok (.goto (-55), 3) := by decide +kernel
theorem dX11_judge_101 : decode cX11_judge 101 = .ok (.bipush (-5), 2) := by decide +kernel
theorem dX11_judge_103 : decode cX11_judge 103 = .ok (.ireturn, 1) := by decide +kernel
theorem dX11_image_0 : decode cX11_image 0 = .ok (.aload_n 0, 1) := by decide +kernel
theorem dX11_image_1 : decode cX11_image 1 = .ok (.iconst 1, 1) := by decide +kernel
theorem dX11_image_2 : decode cX11_image 2 = .ok (.putfield 238, 3) := by decide +kernel
theorem dX11_image_5 : decode cX11_image 5 = .ok (.aload_n 0, 1) := by decide +kernel
theorem dX11_image_6 : decode cX11_image 6 = .ok (.getfield 97, 3) := by decide +kernel
theorem dX11_image_9 : decode cX11_image 9 = .ok (.aload_n 0, 1) := by decide +kernel
theorem dX11_image_10 : decode cX11_image 10 = .ok (.getfield 90, 3) := by decide +kernel
theorem dX11_image_13 : decode cX11_image 13 = .ok (.invokevirtual 187, 3) := by decide +kernel
theorem dX11_image_16 : decode cX11_image 16 = .ok (.aload_n 0, 1) := by decide +kernel
theorem dX11_image_17 : decode cX11_image 17 = .ok (.getfield 26, 3) := by decide +kernel
theorem dX11_image_20 : decode cX11_image 20 = .ok (.aload_n 0, 1) := by decide +kernel
theorem dX11_image_21 : decode cX11_image 21 = .ok (.getfield 16, 3) := by decide +kernel
theorem dX11_image_24 : decode cX11_image 24 = .ok (.invokevirtual 242, 3) := by decide +kernel
theorem dX11_image_27 : decode cX11_image 27 = .ok (.aload_n 0, 1) := by decide +kernel
theorem dX11_image_28 : decode cX11_image 28 = .ok (.getfield 29, 3) := by decide +kernel
theorem dX11_image_31 : decode cX11_image 31 = .ok (.aload_n 0, 1) := by decide +kernel
theorem dX11_image_32 : decode cX11_image 32 = .ok (.getfield 20, 3) := by decide +kernel
theorem dX11_image_35 : decode cX11_image 35 = .ok (.invokevirtual 242, 3) := by decide +kernel
theorem dX11_image_38 : decode cX11_image 38 = .ok (.aload_n 0, 1) := by decide +kernel
theorem dX11_image_39 : decode cX11_image 39 = .ok (.getfield 32, 3) := by decide +kernel
theorem dX11_image_42 : decode cX11_image 42 = .ok (.aload_n 0, 1) := by decide +kernel
theorem dX11_image_43 : decode cX11_image 43 = .ok (.getfield 23, 3) := by decide +kernel
theorem dX11_image_46 : decode cX11_image 46 = .ok (.invokevirtual 242, 3) := by decide +kernel
theorem dX11_image_49 : decode cX11_image 49 = .ok (.aload_n 0, 1) := by decide +kernel
theorem dX11_image_50 : decode cX11_image 50 = .ok (.getfield 90, 3) := by decide +kernel
theorem dX11_image_53 : decode cX11_image 53 = .ok (.getfield 245, 3) := by decide +kernel
theorem dX11_image_56 : decode cX11_image 56 = .ok (.ireturn, 1) := by decide +kernel
theorem dX11_undo_0 : decode cX11_undo 0 = .ok (.aload_n 0, 1) := by decide +kernel
theorem dX11_undo_1 : decode cX11_undo 1 = .ok (.getfield 238, 3) := by decide +kernel
theorem dX11_undo_4 : decode cX11_undo 4 = .ok (.ifCond .ne 6, 3) := by decide +kernel
theorem dX11_undo_7 : decode cX11_undo 7 = .ok (.bipush (-3), 2) := by decide +kernel
theorem dX11_undo_9 : decode cX11_undo 9 = .ok (.ireturn, 1) := by decide +kernel
theorem dX11_undo_10 : decode cX11_undo 10 = .ok (.aload_n 0, 1) := by decide +kernel
theorem dX11_undo_11 : decode cX11_undo 11 = .ok (.getfield 90, 3) := by decide +kernel
theorem dX11_undo_14 : decode cX11_undo 14 = .ok (.aload_n 0, 1) := by decide +kernel
theorem dX11_undo_15 : decode cX11_undo 15 = .ok (.getfield 97, 3) := by decide +kernel
theorem dX11_undo_18 : decode cX11_undo 18 = .ok (.invokevirtual 187, 3) := by decide +kernel
theorem dX11_undo_21 : decode cX11_undo 21 = .ok (.aload_n 0, 1) := by decide +kernel
theorem dX11_undo_22 : decode cX11_undo 22 = .ok (.getfield 16, 3) := by decide +kernel
theorem dX11_undo_25 : decode cX11_undo 25 = .ok (.aload_n 0, 1) := by decide +kernel
theorem dX11_undo_26 : decode cX11_undo 26 = .ok (.getfield 26, 3) := by decide +kernel
theorem dX11_undo_29 : decode cX11_undo 29 = .ok (.invokevirtual 242, 3) := by decide +kernel
theorem dX11_undo_32 : decode cX11_undo 32 = .ok (.aload_n 0, 1) := by decide +kernel
theorem dX11_undo_33 : decode cX11_undo 33 = .ok (.getfield 20, 3) := by decide +kernel
theorem dX11_undo_36 : decode cX11_undo 36 = .ok (.aload_n 0, 1) := by decide +kernel
theorem dX11_undo_37 : decode cX11_undo 37 = .ok (.getfield 29, 3) := by decide +kernel
theorem dX11_undo_40 : decode cX11_undo 40 = .ok (.invokevirtual 242, 3) := by decide +kernel
theorem dX11_undo_43 : decode cX11_undo 43 = .ok (.aload_n 0, 1) := by decide +kernel
theorem dX11_undo_44 : decode cX11_undo 44 = .ok (.getfield 23, 3) := by decide +kernel
theorem dX11_undo_47 : decode cX11_undo 47 = .ok (.aload_n 0, 1) := by decide +kernel
theorem dX11_undo_48 : decode cX11_undo 48 = .ok (.getfield 32, 3) := by decide +kernel
theorem dX11_undo_51 : decode cX11_undo 51 = .ok (.invokevirtual 242, 3) := by decide +kernel
theorem dX11_undo_54 : decode cX11_undo 54 = .ok (.aload_n 0, 1) := by decide +kernel
theorem dX11_undo_55 : decode cX11_undo 55 = .ok (.getfield 90, 3) := by decide +kernel
theorem dX11_undo_58 : decode cX11_undo 58 = .ok (.getfield 245, 3) := by decide +kernel
theorem dX11_undo_61 : decode cX11_undo 61 = .ok (.ireturn, 1) := by decide +kernel
theorem dX11_act_0 : decode cX11_act 0 = .ok (.aload_n 0, 1) := by decide +kernel
theorem dX11_act_1 : decode cX11_act 1 = .ok (.getfield 49, 3) := by decide +kernel
theorem dX11_act_4 : decode cX11_act 4 = .ok (.iconst 0, 1) := by decide +kernel
theorem dX11_act_5 : decode cX11_act 5 = .ok (.putfield 248, 3) := by decide +kernel
theorem dX11_act_8 : decode cX11_act 8 = .ok (.aload_n 0, 1) := by decide +kernel
theorem dX11_act_9 : decode cX11_act 9 = .ok (.iload_n 1, 1) := by decide +kernel
theorem dX11_act_10 : decode cX11_act 10 = .ok (.invokevirtual 111, 3) := by decide +kernel
theorem dX11_act_13 : decode cX11_act 13 = .ok (.ifCond .ne 5, 3) := by decide +kernel
theorem dX11_act_16 : decode cX11_act 16 = .ok (.iconst 0, 1) := by decide +kernel
theorem dX11_act_17 : decode cX11_act 17 = .ok (.ireturn, 1) := by decide +kernel
theorem dX11_act_18 : decode cX11_act 18 = .ok (.aload_n 0, 1) := by decide +kernel
theorem dX11_act_19 : decode cX11_act 19 = .ok (.getfield 49, 3) := by decide +kernel
theorem dX11_act_22 : decode cX11_act 22 = .ok (.iload_n 1, 1) := by decide +kernel
theorem dX11_act_23 : decode cX11_act 23 = .ok (.putfield 251, 3) := by decide +kernel
theorem dX11_act_26 : decode cX11_act 26 = .ok (.aload_n 0, 1) := by decide +kernel
theorem dX11_act_27 : decode cX11_act 27 = .ok (.getfield 49, 3) := by decide +kernel
theorem dX11_act_30 : decode cX11_act 30 = .ok (.aload_n 0, 1) := by decide +kernel
theorem dX11_act_31 : decode cX11_act 31 = .ok (.getfield 90, 3) := by decide +kernel
theorem dX11_act_34 : decode cX11_act 34 = .ok (.getfield 117, 3) := by decide +kernel
theorem dX11_act_37 : decode cX11_act 37 = .ok (.iload_n 1, 1) := by decide +kernel
theorem dX11_act_38 : decode cX11_act 38 = .ok (.iaload, 1) := by decide +kernel
theorem dX11_act_39 : decode cX11_act 39 = .ok (.putfield 254, 3) := by decide +kernel
theorem dX11_act_42 : decode cX11_act 42 = .ok (.aload_n 0, 1) := by decide +kernel
theorem dX11_act_43 : decode cX11_act 43 = .ok (.getfield 90, 3) := by decide +kernel
theorem dX11_act_46 : decode cX11_act 46 = .ok (.iload_n 1, 1) := by decide +kernel
theorem dX11_act_47 : decode cX11_act 47 = .ok (.invokevirtual 131, 3) := by decide +kernel
theorem dX11_act_50 : decode cX11_act 50 = .ok (.astore 4, 2) := by decide +kernel
theorem dX11_act_52 : decode cX11_act 52 = .ok (.iload_n 2, 1) := by decide +kernel
theorem dX11_act_53 : decode cX11_act 53 = .ok (.tableswitch 60 0 2 #[27, 38, 49], 27) := by decide +kernel
theorem dX11_act_80 : decode cX11_act 80 = .ok (.aload 4, 2) := by decide +kernel
theorem dX11_act_82 : decode cX11_act 82 = .ok (.aload_n 0, 1) := by decide +kernel
theorem dX11_act_83 : decode cX11_act 83 = .ok (.getfield 49, 3) := by decide +kernel
theorem dX11_act_86 : decode cX11_act 86 = .ok (.iload_n 3, 1) := by decide +kernel
theorem dX11_act_87 : decode cX11_act 87 = .ok (.invokevirtual 256, 3) := by decide +kernel
theorem dX11_act_90 : decode cX11_act 90 = .ok (.ireturn, 1) := by decide +kernel
theorem dX11_act_91 : decode cX11_act 91 = .ok (.aload 4, 2) := by decide +kernel
theorem dX11_act_93 : decode cX11_act 93 = .ok (.aload_n 0, 1) := by decide +kernel
theorem dX11_act_94 : decode cX11_act 94 = .ok (.getfield 49, 3) := by decide +kernel
theorem dX11_act_97 : decode cX11_act 97 = .ok (.iload_n 3, 1) := by decide +kernel
theorem dX11_act_98 : decode cX11_act 98 = .ok (.invokevirtual 260, 3) := by decide +kernel
theorem dX11_act_101 : decode cX11_act 101 = .ok (.ireturn, 1) := by decide +kernel
theorem dX11_act_102 : decode cX11_act 102 = .ok (.aload 4, 2) := by decide +kernel
theorem dX11_act_104 : decode cX11_act 104 = .ok (.aload_n 0, 1) := by decide +kernel
theorem dX11_act_105 : decode cX11_act 105 = .ok (.getfield 49, 3) := by decide +kernel
theorem dX11_act_108 : decode cX11_act 108 = .ok (.iload_n 3, 1) := by decide +kernel
theorem dX11_act_109 : decode cX11_act 109 = .ok (.invokevirtual 263, 3) := by decide +kernel
theorem dX11_act_112 : decode cX11_act 112 = .ok (.ireturn, 1) := by decide +kernel
theorem dX11_act_113 : decode cX11_act 113 = .ok (.iconst 0, 1) := by decide +kernel
theorem dX11_act_114 : decode cX11_act 114 = .ok (.ireturn, 1) := by decide +kernel
theorem dX11_trace_0 : decode cX11_trace 0 = .ok (.iload_n 1, 1) := by decide +kernel
theorem dX11_trace_1 : decode cX11_trace 1 = .ok (.ifCond .lt 20, 3) := by decide +kernel
theorem dX11_trace_4 : decode cX11_trace 4 = .ok (.iload_n 1, 1) := by decide +kernel
theorem dX11_trace_5 : decode cX11_trace 5 = .ok (.aload_n 0, 1) := by decide +kernel
theorem dX11_trace_6 : decode cX11_trace 6 = .ok (.getfield 49, 3) := by decide +kernel
theorem dX11_trace_9 : decode cX11_trace 9 = .ok (.getfield 248, 3) := by decide +kernel
theorem dX11_trace_12 : decode cX11_trace 12 = .ok (.if_icmp .ge 9, 3) := by decide +kernel
theorem dX11_trace_15 : decode cX11_trace 15 = .ok (.iload_n 1, 1) := by decide +kernel
theorem dX11_trace_16 : decode cX11_trace 16 = .ok (.bipush 20, 2) := by decide +kernel
theorem dX11_trace_18 : decode cX11_trace 18 = .ok (.if_icmp .lt 5, 3) := by decide +kernel
theorem dX11_trace_21 : decode cX11_trace 21 = .ok (.iconst (-1), 1) := by decide +kernel
theorem dX11_trace_22 : decode cX11_trace 22 = .ok (.ireturn, 1) := by decide +kernel
theorem dX11_trace_23 : decode cX11_trace 23 = .ok (.aload_n 0, 1) := by decide +kernel
theorem dX11_trace_24 : decode cX11_trace 24 = .ok (.getfield 49, 3) := by decide +kernel
theorem dX11_trace_27 : decode cX11_trace 27 = .ok (.getfield 266, 3) := by decide +kernel
theorem dX11_trace_30 : decode cX11_trace 30 = .ok (.iload_n 1, 1) := by decide +kernel
theorem dX11_trace_31 : decode cX11_trace 31 = .ok (.iaload, 1) := by decide +kernel
theorem dX11_trace_32 : decode cX11_trace 32 = .ok (.ireturn, 1) := by decide +kernel
theorem dX11_taken_0 : decode cX11_taken 0 = .ok (.iload_n 2, 1) := by decide +kernel
theorem dX11_taken_1 : decode cX11_taken 1 = .ok (.ifCond .lt 9, 3) := by decide +kernel
theorem dX11_taken_4 : decode cX11_taken 4 = .ok (.iload_n 2, 1) := by decide +kernel
theorem dX11_taken_5 : decode cX11_taken 5 = .ok (.bipush 7, 2) := by decide +kernel
theorem dX11_taken_7 : decode cX11_taken 7 = .ok (.if_icmp .lt 6, 3) := by decide +kernel
theorem dX11_taken_10 : decode cX11_taken 10 = .ok (.bipush (-2), 2) := by decide +kernel
theorem dX11_taken_12 : decode cX11_taken 12 = .ok (.ireturn, 1) := by decide +kernel
theorem dX11_taken_13 : decode cX11_taken 13 = .ok (.aload_n 0, 1) := by decide +kernel
theorem dX11_taken_14 : decode cX11_taken 14 = .ok (.iload_n 1, 1) := by decide +kernel
theorem dX11_taken_15 : decode cX11_taken 15 = .ok (.invokevirtual 111, 3) := by decide +kernel
theorem dX11_taken_18 : decode cX11_taken 18 = .ok (.ifCond .ne 6, 3) := by decide +kernel
theorem dX11_taken_21 : decode cX11_taken 21 = .ok (.bipush (-11), 2) := by decide +kernel
theorem dX11_taken_23 : decode cX11_taken 23 = .ok (.ireturn, 1) := by decide +kernel
theorem dX11_taken_24 : decode cX11_taken 24 = .ok (.aload_n 0, 1) := by decide +kernel
theorem dX11_taken_25 : decode cX11_taken 25 = .ok (.getfield 90, 3) := by decide +kernel
theorem dX11_taken_28 : decode cX11_taken 28 = .ok (.getfield 114, 3) := by decide +kernel
theorem dX11_taken_31 : decode cX11_taken 31 = .ok (.iload_n 1, 1) := by decide +kernel
theorem dX11_taken_32 : decode cX11_taken 32 = .ok (.iaload, 1) := by decide +kernel
theorem dX11_taken_33 : decode cX11_taken 33 = .ok (.istore_n 3, 1) := by decide +kernel
theorem dX11_taken_34 : decode cX11_taken 34 = .ok (.iload_n 3, 1) := by decide +kernel
theorem dX11_taken_35 : decode cX11_taken 35 = .ok (.istore 4, 2) := by decide +kernel
theorem dX11_taken_37 : decode cX11_taken 37 = .ok (.iconst 0, 1) := by decide +kernel
theorem dX11_taken_38 : decode cX11_taken 38 = .ok (.istore 5, 2) := by decide +kernel
theorem dX11_taken_40 : decode cX11_taken 40 = .ok (.iload 5, 2) := by decide +kernel
theorem dX11_taken_42 : decode cX11_taken 42 = .ok (.bipush 7, 2) := by decide +kernel
theorem dX11_taken_44 : decode cX11_taken 44 = .ok (.if_icmp .ge 30, 3) := by decide +kernel
theorem dX11_taken_47 : decode cX11_taken 47 = .ok (.iload 4, 2) := by decide +kernel
theorem dX11_taken_49 : decode cX11_taken 49 = .ok (.ifCond .lt 25, 3) := by decide +kernel
theorem dX11_taken_52 : decode cX11_taken 52 = .ok (.iload 4, 2) := by decide +kernel
theorem dX11_taken_54 : decode cX11_taken 54 = .ok (.iload_n 2, 1) := by decide +kernel
theorem dX11_taken_55 : decode cX11_taken 55 = .ok (.if_icmp .ne 5, 3) := by decide +kernel
theorem dX11_taken_58 : decode cX11_taken 58 = .ok (.iload_n 3, 1) := by decide +kernel
theorem dX11_taken_59 : decode cX11_taken 59 = .ok (.ireturn, 1) := by decide +kernel
theorem dX11_taken_60 : decode cX11_taken 60 = .ok (.getstatic 269, 3) := by decide +kernel
theorem dX11_taken_63 : decode cX11_taken 63 = .ok (.iload 4, 2) := by decide +kernel
theorem dX11_taken_65 : decode cX11_taken 65 = .ok (.iaload, 1) := by decide +kernel
theorem dX11_taken_66 : decode cX11_taken 66 = .ok (.istore 4, 2) := by decide +kernel
theorem dX11_taken_68 : decode cX11_taken 68 = .ok (.iinc 5 1, 3) := by decide +kernel
theorem dX11_taken_71 : decode cX11_taken 71 = .ok (.goto (-31), 3) := by decide +kernel
theorem dX11_taken_74 : decode cX11_taken 74 = .ok (.bipush (-12), 2) := by decide +kernel
theorem dX11_taken_76 : decode cX11_taken 76 = .ok (.ireturn, 1) := by decide +kernel
theorem dX11_count_0 : decode cX11_count 0 = .ok (.iload_n 1, 1) := by decide +kernel
theorem dX11_count_1 : decode cX11_count 1 = .ok (.tableswitch 93 0 6 #[43, 51, 56, 64, 72, 80, 85], 43) := by decide +kernel
theorem dX11_count_44 : decode cX11_count 44 = .ok (.aload_n 0, 1) := by decide +kernel
theorem dX11_count_45 : decode cX11_count 45 = .ok (.getfield 90, 3) := by decide +kernel
theorem dX11_count_48 : decode cX11_count 48 = .ok (.getfield 245, 3) := by decide +kernel
theorem dX11_count_51 : decode cX11_count 51 = .ok (.ireturn, 1) := by decide +kernel
theorem dX11_count_52 : decode cX11_count 52 = .ok (.aload_n 0, 1) := by decide +kernel
theorem dX11_count_53 : decode cX11_count 53 = .ok (.getfield 153, 3) := by decide +kernel
theorem dX11_count_56 : decode cX11_count 56 = .ok (.ireturn, 1) := by decide +kernel
theorem dX11_count_57 : decode cX11_count 57 = .ok (.aload_n 0, 1) := by decide +kernel
theorem dX11_count_58 : decode cX11_count 58 = .ok (.getfield 16, 3) := by decide +kernel
theorem dX11_count_61 : decode cX11_count 61 = .ok (.getfield 226, 3) := by decide +kernel
theorem dX11_count_64 : decode cX11_count 64 = .ok (.ireturn, 1) := by decide +kernel
theorem dX11_count_65 : decode cX11_count 65 = .ok (.aload_n 0, 1) := by decide +kernel
theorem dX11_count_66 : decode cX11_count 66 = .ok (.getfield 20, 3) := by decide +kernel
theorem dX11_count_69 : decode cX11_count 69 = .ok (.getfield 226, 3) := by decide +kernel
theorem dX11_count_72 : decode cX11_count 72 = .ok (.ireturn, 1) := by decide +kernel
theorem dX11_count_73 : decode cX11_count 73 = .ok (.aload_n 0, 1) := by decide +kernel
theorem dX11_count_74 : decode cX11_count 74 = .ok (.getfield 23, 3) := by decide +kernel
theorem dX11_count_77 : decode cX11_count 77 = .ok (.getfield 226, 3) := by decide +kernel
theorem dX11_count_80 : decode cX11_count 80 = .ok (.ireturn, 1) := by decide +kernel
theorem dX11_count_81 : decode cX11_count 81 = .ok (.aload_n 0, 1) := by decide +kernel
theorem dX11_count_82 : decode cX11_count 82 = .ok (.getfield 149, 3) := by decide +kernel
theorem dX11_count_85 : decode cX11_count 85 = .ok (.ireturn, 1) := by decide +kernel
theorem dX11_count_86 : decode cX11_count 86 = .ok (.aload_n 0, 1) := by decide +kernel
theorem dX11_count_87 : decode cX11_count 87 = .ok (.getfield 49, 3) := by decide +kernel
theorem dX11_count_90 : decode cX11_count 90 = .ok (.getfield 248, 3) := by decide +kernel
theorem dX11_count_93 : decode cX11_count 93 = .ok (.ireturn, 1) := by decide +kernel
theorem dX11_count_94 : decode cX11_count 94 = .ok (.bipush (-2), 2) := by decide +kernel
theorem dX11_count_96 : decode cX11_count 96 = .ok (.ireturn, 1) := by decide +kernel
theorem dX11_tape_0 : decode cX11_tape 0 = .ok (.iload_n 1, 1) := by decide +kernel
theorem dX11_tape_1 : decode cX11_tape 1 = .ok (.invokestatic 235, 3) := by decide +kernel
theorem dX11_tape_4 : decode cX11_tape 4 = .ok (.ifCond .ne 5, 3) := by decide +kernel
theorem dX11_tape_7 : decode cX11_tape 7 = .ok (.iconst (-1), 1) := by decide +kernel
theorem dX11_tape_8 : decode cX11_tape 8 = .ok (.ireturn, 1) := by decide +kernel
theorem dX11_tape_9 : decode cX11_tape 9 = .ok (.iload_n 2, 1) := by decide +kernel
theorem dX11_tape_10 : decode cX11_tape 10 = .ok (.iconst (-1), 1) := by decide +kernel
theorem dX11_tape_11 : decode cX11_tape 11 = .ok (.if_icmp .ne 12, 3) := by decide +kernel
theorem dX11_tape_14 : decode cX11_tape 14 = .ok (.aload_n 0, 1) := by decide +kernel
theorem dX11_tape_15 : decode cX11_tape 15 = .ok (.getfield 53, 3) := by decide +kernel
theorem dX11_tape_18 : decode cX11_tape 18 = .ok (.iload_n 1, 1) := by decide +kernel
theorem dX11_tape_19 : decode cX11_tape 19 = .ok (.iconst (-1), 1) := by decide +kernel
theorem dX11_tape_20 : decode cX11_tape 20 = .ok (.iastore, 1) := by decide +kernel
theorem dX11_tape_21 : decode cX11_tape 21 = .ok (.iconst 1, 1) := by decide +kernel
theorem dX11_tape_22 : decode cX11_tape 22 = .ok (.ireturn, 1) := by decide +kernel
theorem dX11_tape_23 : decode cX11_tape 23 = .ok (.iload_n 2, 1) := by decide +kernel
theorem dX11_tape_24 : decode cX11_tape 24 = .ok (.ifCond .lt 14, 3) := by decide +kernel
theorem dX11_tape_27 : decode cX11_tape 27 = .ok (.iload_n 2, 1) := by decide +kernel
theorem dX11_tape_28 : decode cX11_tape 28 = .ok (.iconst 5, 1) := by decide +kernel
theorem dX11_tape_29 : decode cX11_tape 29 = .ok (.if_icmp .ge 9, 3) := by decide +kernel
theorem dX11_tape_32 : decode cX11_tape 32 = .ok (.iload_n 3, 1) := by decide +kernel
theorem dX11_tape_33 : decode cX11_tape 33 = .ok (.bipush 60, 2) := by decide +kernel
theorem dX11_tape_35 : decode cX11_tape 35 = .ok (.if_icmp .le 6, 3) := by decide +kernel
theorem dX11_tape_38 : decode cX11_tape 38 = .ok (.bipush (-2), 2) := by decide +kernel
theorem dX11_tape_40 : decode cX11_tape 40 = .ok (.ireturn, 1) := by decide +kernel
theorem dX11_tape_41 : decode cX11_tape 41 = .ok (.iload_n 3, 1) := by decide +kernel
theorem dX11_tape_42 : decode cX11_tape 42 = .ok (.ifCond .ge 6, 3) := by decide +kernel
theorem dX11_tape_45 : decode cX11_tape 45 = .ok (.bipush (-14), 2) := by decide +kernel
theorem dX11_tape_47 : decode cX11_tape 47 = .ok (.ireturn, 1) := by decide +kernel
theorem dX11_tape_48 : decode cX11_tape 48 = .ok (.aload_n 0, 1) := by decide +kernel
theorem dX11_tape_49 : decode cX11_tape 49 = .ok (.getfield 53, 3) := by decide +kernel
theorem dX11_tape_52 : decode cX11_tape 52 = .ok (.iload_n 1, 1) := by decide +kernel
theorem dX11_tape_53 : decode cX11_tape 53 = .ok (.iload_n 2, 1) := by decide +kernel
theorem dX11_tape_54 : decode cX11_tape 54 = .ok (.iastore, 1) := by decide +kernel
theorem dX11_tape_55 : decode cX11_tape 55 = .ok (.aload_n 0, 1) := by decide +kernel
theorem dX11_tape_56 : decode cX11_tape 56 = .ok (.getfield 57, 3) := by decide +kernel
theorem dX11_tape_59 : decode cX11_tape 59 = .ok (.iload_n 1, 1) := by decide +kernel
theorem dX11_tape_60 : decode cX11_tape 60 = .ok (.iload_n 3, 1) := by decide +kernel
theorem dX11_tape_61 : decode cX11_tape 61 = .ok (.iastore, 1) := by decide +kernel
theorem dX11_tape_62 : decode cX11_tape 62 = .ok (.iconst 0, 1) := by decide +kernel
theorem dX11_tape_63 : decode cX11_tape 63 = .ok (.istore 4, 2) := by decide +kernel
theorem dX11_tape_65 : decode cX11_tape 65 = .ok (.iload 4, 2) := by decide +kernel
theorem dX11_tape_67 : decode cX11_tape 67 = .ok (.iload_n 3, 1) := by decide +kernel
theorem dX11_tape_68 : decode cX11_tape 68 = .ok (.if_icmp .ge 22, 3) := by decide +kernel
theorem dX11_tape_71 : decode cX11_tape 71 = .ok (.aload_n 0, 1) := by decide +kernel
theorem dX11_tape_72 : decode cX11_tape 72 = .ok (.getfield 60, 3) := by decide +kernel
theorem dX11_tape_75 : decode cX11_tape 75 = .ok (.iload_n 1, 1) := by decide +kernel
theorem dX11_tape_76 : decode cX11_tape 76 = .ok (.bipush 60, 2) := by decide +kernel
theorem dX11_tape_78 : decode cX11_tape 78 = .ok (.imul, 1) := by decide +kernel
theorem dX11_tape_79 : decode cX11_tape 79 = .ok (.iload 4, 2) := by decide +kernel
theorem dX11_tape_81 : decode cX11_tape 81 = .ok (.iadd, 1) := by decide +kernel
theorem dX11_tape_82 : decode cX11_tape 82 = .ok (.lconst 0, 1) := by decide +kernel
theorem dX11_tape_83 : decode cX11_tape 83 = .ok (.lastore, 1) := by decide +kernel
theorem dX11_tape_84 : decode cX11_tape 84 = .ok (.iinc 4 1, 3) := by decide +kernel
theorem dX11_tape_87 : decode cX11_tape 87 = .ok (.goto (-22), 3) := by decide +kernel
theorem dX11_tape_90 : decode cX11_tape 90 = .ok (.iconst 1, 1) := by decide +kernel
theorem dX11_tape_91 : decode cX11_tape 91 = .ok (.ireturn, 1) := by decide +kernel
theorem dX11_item_0 : decode cX11_item 0 = .ok (.iload_n 1, 1) := by decide +kernel
theorem dX11_item_1 : decode cX11_item 1 = .ok (.invokestatic 235, 3) := by decide +kernel
theorem dX11_item_4 : decode cX11_item 4 = .ok (.ifCond .ne 5, 3) := by decide +kernel
theorem dX11_item_7 : decode cX11_item 7 = .ok (.iconst (-1), 1) := by decide +kernel
theorem dX11_item_8 : decode cX11_item 8 = .ok (.ireturn, 1) := by decide +kernel
theorem dX11_item_9 : decode cX11_item 9 = .ok (.aload_n 0, 1) := by decide +kernel
theorem dX11_item_10 : decode cX11_item 10 = .ok (.getfield 53, 3) := by decide +kernel
theorem dX11_item_13 : decode cX11_item 13 = .ok (.iload_n 1, 1) := by decide +kernel
theorem dX11_item_14 : decode cX11_item 14 = .ok (.iaload, 1) := by decide +kernel
theorem dX11_item_15 : decode cX11_item 15 = .ok (.iconst (-1), 1) := by decide +kernel
theorem dX11_item_16 : decode cX11_item 16 = .ok (.if_icmp .ne 6, 3) := by decide +kernel
theorem dX11_item_19 : decode cX11_item 19 = .ok (.bipush (-11), 2) := by decide +kernel
theorem dX11_item_21 : decode cX11_item 21 = .ok (.ireturn, 1) := by decide +kernel
theorem dX11_item_22 : decode cX11_item 22 = .ok (.iload_n 2, 1) := by decide +kernel
theorem dX11_item_23 : decode cX11_item 23 = .ok (.ifCond .lt 13, 3) := by decide +kernel
theorem dX11_item_26 : decode cX11_item 26 = .ok (.iload_n 2, 1) := by decide +kernel
theorem dX11_item_27 : decode cX11_item 27 = .ok (.aload_n 0, 1) := by decide +kernel
theorem dX11_item_28 : decode cX11_item 28 = .ok (.getfield 57, 3) := by decide +kernel
theorem dX11_item_31 : decode cX11_item 31 = .ok (.iload_n 1, 1) := by decide +kernel
theorem dX11_item_32 : decode cX11_item 32 = .ok (.iaload, 1) := by decide +kernel
theorem dX11_item_33 : decode cX11_item 33 = .ok (.if_icmp .lt 6, 3) := by decide +kernel
theorem dX11_item_36 : decode cX11_item 36 = .ok (.bipush (-13), 2) := by decide +kernel
theorem dX11_item_38 : decode cX11_item 38 = .ok (.ireturn, 1) := by decide +kernel
theorem dX11_item_39 : decode cX11_item 39 = .ok (.aload_n 0, 1) := by decide +kernel
theorem dX11_item_40 : decode cX11_item 40 = .ok (.getfield 60, 3) := by decide +kernel
theorem dX11_item_43 : decode cX11_item 43 = .ok (.iload_n 1, 1) := by decide +kernel
theorem dX11_item_44 : decode cX11_item 44 = .ok (.bipush 60, 2) := by decide +kernel
theorem dX11_item_46 : decode cX11_item 46 = .ok (.imul, 1) := by decide +kernel
theorem dX11_item_47 : decode cX11_item 47 = .ok (.iload_n 2, 1) := by decide +kernel
theorem dX11_item_48 : decode cX11_item 48 = .ok (.iadd, 1) := by decide +kernel
theorem dX11_item_49 : decode cX11_item 49 = .ok (.aload_n 0, 1) := by decide +kernel
theorem dX11_item_50 : decode cX11_item 50 = .ok (.getfield 53, 3) := by decide +kernel
theorem dX11_item_53 : decode cX11_item 53 = .ok (.iload_n 1, 1) := by decide +kernel
theorem dX11_item_54 : decode cX11_item 54 = .ok (.iaload, 1) := by decide +kernel
theorem dX11_item_55 : decode cX11_item 55 = .ok (.lload_n 3, 1) := by decide +kernel
theorem dX11_item_56 : decode cX11_item 56 = .ok (.invokestatic 272, 3) := by decide +kernel
theorem dX11_item_59 : decode cX11_item 59 = .ok (.lastore, 1) := by decide +kernel
theorem dX11_item_60 : decode cX11_item 60 = .ok (.iconst 1, 1) := by decide +kernel
theorem dX11_item_61 : decode cX11_item 61 = .ok (.ireturn, 1) := by decide +kernel
theorem dX11_read_0 : decode cX11_read 0 = .ok (.iload_n 1, 1) := by decide +kernel
theorem dX11_read_1 : decode cX11_read 1 = .ok (.invokestatic 235, 3) := by decide +kernel
theorem dX11_read_4 : decode cX11_read 4 = .ok (.ifCond .eq 27, 3) := by decide +kernel
theorem dX11_read_7 : decode cX11_read 7 = .ok (.aload_n 0, 1) := by decide +kernel
theorem dX11_read_8 : decode cX11_read 8 = .ok (.getfield 53, 3) := by decide +kernel
theorem dX11_read_11 : decode cX11_read 11 = .ok (.iload_n 1, 1) := by decide +kernel
theorem dX11_read_12 : decode cX11_read 12 = .ok (.iaload, 1) := by decide +kernel
theorem dX11_read_13 : decode cX11_read 13 = .ok (.iconst (-1), 1) := by decide +kernel
theorem dX11_read_14 : decode cX11_read 14 = .ok (.if_icmp .eq 17, 3) := by decide +kernel
theorem dX11_read_17 : decode cX11_read 17 = .ok (.iload_n 2, 1) := by decide +kernel
theorem dX11_read_18 : decode cX11_read 18 = .ok (.ifCond .lt 13, 3) := by decide +kernel
theorem dX11_read_21 : decode cX11_read 21 = .ok (.iload_n 2, 1) := by decide +kernel
theorem dX11_read_22 : decode cX11_read 22 = .ok (.aload_n 0, 1) := by decide +kernel
theorem dX11_read_23 : decode cX11_read 23 = .ok (.getfield 57, 3) := by decide +kernel
theorem dX11_read_26 : decode cX11_read 26 = .ok (.iload_n 1, 1) := by decide +kernel
theorem dX11_read_27 : decode cX11_read 27 = .ok (.iaload, 1) := by decide +kernel
theorem dX11_read_28 : decode cX11_read 28 = .ok (.if_icmp .lt 7, 3) := by decide +kernel
theorem dX11_read_31 : decode cX11_read 31 = .ok (.ldc2_w 220, 3) := by decide +kernel
theorem dX11_read_34 : decode cX11_read 34 = .ok (.lreturn, 1) := by decide +kernel
theorem dX11_read_35 : decode cX11_read 35 = .ok (.aload_n 0, 1) := by decide +kernel
theorem dX11_read_36 : decode cX11_read 36 = .ok (.getfield 60, 3) := by decide +kernel
theorem dX11_read_39 : decode cX11_read 39 = .ok (.iload_n 1, 1) := by decide +kernel
theorem dX11_read_40 : decode cX11_read 40 = .ok (.bipush 60, 2) := by decide +kernel
theorem dX11_read_42 : decode cX11_read 42 = .ok (.imul, 1) := by decide +kernel
theorem dX11_read_43 : decode cX11_read 43 = .ok (.iload_n 2, 1) := by decide +kernel
theorem dX11_read_44 : decode cX11_read 44 = .ok (.iadd, 1) := by decide +kernel
theorem dX11_read_45 : decode cX11_read 45 = .ok (.laload, 1) := by decide +kernel
theorem dX11_read_46 : decode cX11_read 46 = .ok (.lreturn, 1) := by decide +kernel
theorem dX11_shift_0 : decode cX11_shift 0 = .ok (.iload_n 1, 1) := by decide +kernel
theorem dX11_shift_1 : decode cX11_shift 1 = .ok (.invokestatic 235, 3) := by decide +kernel
theorem dX11_shift_4 : decode cX11_shift 4 = .ok (.ifCond .eq 10, 3) := by decide +kernel
theorem dX11_shift_7 : decode cX11_shift 7 = .ok (.iload_n 3, 1) := by decide +kernel
theorem dX11_shift_8 : decode cX11_shift 8 = .ok (.invokestatic 235, 3) := by decide +kernel
theorem dX11_shift_11 : decode cX11_shift 11 = .ok (.ifCond .ne 5, 3) := by decide +kernel
theorem dX11_shift_14 : decode cX11_shift 14 = .ok (.iconst (-1), 1) := by decide +kernel
theorem dX11_shift_15 : decode cX11_shift 15 = .ok (.ireturn, 1) := by decide +kernel
theorem dX11_shift_16 : decode cX11_shift 16 = .ok (.aload_n 0, 1) := by decide +kernel
theorem dX11_shift_17 : decode cX11_shift 17 = .ok (.getfield 53, 3) := by decide +kernel
theorem dX11_shift_20 : decode cX11_shift 20 = .ok (.iload_n 1, 1) := by decide +kernel
theorem dX11_shift_21 : decode cX11_shift 21 = .ok (.iaload, 1) := by decide +kernel
theorem dX11_shift_22 : decode cX11_shift 22 = .ok (.iconst (-1), 1) := by decide +kernel
theorem dX11_shift_23 : decode cX11_shift 23 = .ok (.if_icmp .eq 13, 3) := by decide +kernel
theorem dX11_shift_26 : decode cX11_shift 26 = .ok (.aload_n 0, 1) := by decide +kernel
theorem dX11_shift_27 : decode cX11_shift 27 = .ok (.getfield 53, 3) := by decide +kernel
theorem dX11_shift_30 : decode cX11_shift 30 = .ok (.iload_n 3, 1) := by decide +kernel
theorem dX11_shift_31 : decode cX11_shift 31 = .ok (.iaload, 1) := by decide +kernel
theorem dX11_shift_32 : decode cX11_shift 32 = .ok (.iconst (-1), 1) := by decide +kernel
theorem dX11_shift_33 : decode cX11_shift 33 = .ok (.if_icmp .ne 6, 3) := by decide +kernel
theorem dX11_shift_36 : decode cX11_shift 36 = .ok (.bipush (-11), 2) := by decide +kernel
theorem dX11_shift_38 : decode cX11_shift 38 = .ok (.ireturn, 1) := by decide +kernel
theorem dX11_shift_39 : decode cX11_shift 39 = .ok (.aload_n 0, 1) := by decide +kernel
theorem dX11_shift_40 : decode cX11_shift 40 = .ok (.getfield 53, 3) := by decide +kernel
theorem dX11_shift_43 : decode cX11_shift 43 = .ok (.iload_n 1, 1) := by decide +kernel
theorem dX11_shift_44 : decode cX11_shift 44 = .ok (.iaload, 1) := by decide +kernel
theorem dX11_shift_45 : decode cX11_shift 45 = .ok (.aload_n 0, 1) := by decide +kernel
theorem dX11_shift_46 : decode cX11_shift 46 = .ok (.getfield 53, 3) := by decide +kernel
theorem dX11_shift_49 : decode cX11_shift 49 = .ok (.iload_n 3, 1) := by decide +kernel
theorem dX11_shift_50 : decode cX11_shift 50 = .ok (.iaload, 1) := by decide +kernel
theorem dX11_shift_51 : decode cX11_shift 51 = .ok (.if_icmp .eq 6, 3) := by decide +kernel
theorem dX11_shift_54 : decode cX11_shift 54 = .ok (.bipush (-12), 2) := by decide +kernel
theorem dX11_shift_56 : decode cX11_shift 56 = .ok (.ireturn, 1) := by decide +kernel
theorem dX11_shift_57 : decode cX11_shift 57 = .ok (.aload_n 0, 1) := by decide +kernel
theorem dX11_shift_58 : decode cX11_shift 58 = .ok (.iload_n 1, 1) := by decide +kernel
theorem dX11_shift_59 : decode cX11_shift 59 = .ok (.iload_n 2, 1) := by decide +kernel
theorem dX11_shift_60 : decode cX11_shift 60 = .ok (.iload 5, 2) := by decide +kernel
theorem dX11_shift_62 : decode cX11_shift 62 = .ok (.invokevirtual 276, 3) := by decide +kernel
theorem dX11_shift_65 : decode cX11_shift 65 = .ok (.ifCond .eq 15, 3) := by decide +kernel
theorem dX11_shift_68 : decode cX11_shift 68 = .ok (.aload_n 0, 1) := by decide +kernel
theorem dX11_shift_69 : decode cX11_shift 69 = .ok (.iload_n 3, 1) := by decide +kernel
theorem dX11_shift_70 : decode cX11_shift 70 = .ok (.iload 4, 2) := by decide +kernel
theorem dX11_shift_72 : decode cX11_shift 72 = .ok (.iload 5, 2) := by decide +kernel
theorem dX11_shift_74 : decode cX11_shift 74 = .ok (.invokevirtual 276, 3) := by decide +kernel
theorem dX11_shift_77 : decode cX11_shift 77 = .ok (.ifCond .ne 6, 3) := by decide +kernel
theorem dX11_shift_80 : decode cX11_shift 80 = .ok (.bipush (-13), 2) := by decide +kernel
theorem dX11_shift_82 : decode cX11_shift 82 = .ok (.ireturn, 1) := by decide +kernel
theorem dX11_shift_83 : decode cX11_shift 83 = .ok (.aload_n 0, 1) := by decide +kernel
theorem dX11_shift_84 : decode cX11_shift 84 = .ok (.getfield 60, 3) := by decide +kernel
theorem dX11_shift_87 : decode cX11_shift 87 = .ok (.iload_n 1, 1) := by decide +kernel
theorem dX11_shift_88 : decode cX11_shift 88 = .ok (.bipush 60, 2) := by decide +kernel
theorem dX11_shift_90 : decode cX11_shift 90 = .ok (.imul, 1) := by decide +kernel
theorem dX11_shift_91 : decode cX11_shift 91 = .ok (.iload_n 2, 1) := by decide +kernel
theorem dX11_shift_92 : decode cX11_shift 92 = .ok (.iadd, 1) := by decide +kernel
theorem dX11_shift_93 : decode cX11_shift 93 = .ok (.aload_n 0, 1) := by decide +kernel
theorem dX11_shift_94 : decode cX11_shift 94 = .ok (.getfield 60, 3) := by decide +kernel
theorem dX11_shift_97 : decode cX11_shift 97 = .ok (.iload_n 3, 1) := by decide +kernel
theorem dX11_shift_98 : decode cX11_shift 98 = .ok (.bipush 60, 2) := by decide +kernel
theorem dX11_shift_100 : decode cX11_shift 100 = .ok (.imul, 1) := by decide +kernel
theorem dX11_shift_101 : decode cX11_shift 101 = .ok (.iload 4, 2) := by decide +kernel
theorem dX11_shift_103 : decode cX11_shift 103 = .ok (.iadd, 1) := by decide +kernel
theorem dX11_shift_104 : decode cX11_shift 104 = .ok (.iload 5, 2) := by decide +kernel
theorem dX11_shift_106 : decode cX11_shift 106 = .ok (.invokestatic 280, 3) := by decide +kernel
theorem dX11_shift_109 : decode cX11_shift 109 = .ok (.iload 5, 2) := by decide +kernel
theorem dX11_shift_111 : decode cX11_shift 111 = .ok (.ireturn, 1) := by decide +kernel
theorem dX11_isPerson_0 : decode cX11_isPerson 0 = .ok (.iload_n 1, 1) := by decide +kernel
theorem dX11_isPerson_1 : decode cX11_isPerson 1 = .ok (.ifCond .lt 18, 3) := by decide +kernel
theorem dX11_isPerson_4 : decode cX11_isPerson 4 = .ok (.iload_n 1, 1) := by decide +kernel
theorem dX11_isPerson_5 : decode cX11_isPerson 5 = .ok (.aload_n 0, 1) := by decide +kernel
theorem dX11_isPerson_6 : decode cX11_isPerson 6 = .ok (.getfield 90, 3) := by decide +kernel
theorem dX11_isPerson_9 : decode cX11_isPerson 9 = .ok (.getfield 245, 3) := by decide +kernel
theorem dX11_isPerson_12 : decode cX11_isPerson 12 = .ok (.if_icmp .ge 7, 3) := by decide +kernel
theorem dX11_isPerson_15 : decode cX11_isPerson 15 = .ok (.iconst 1, 1) := by decide +kernel
theorem dX11_isPerson_16 : decode cX11_isPerson 16 = .ok (.goto 4, 3) := by decide +kernel
theorem dX11_isPerson_19 : decode cX11_isPerson 19 = .ok (.iconst 0, 1) := by decide +kernel
theorem dX11_isPerson_20 : decode cX11_isPerson 20 = .ok (.ireturn, 1) := by decide +kernel
theorem dX11_isCell_0 : decode cX11_isCell 0 = .ok (.iload_n 0, 1) := by decide +kernel
theorem dX11_isCell_1 : decode cX11_isCell 1 = .ok (.ifCond .lt 13, 3) := by decide +kernel
theorem dX11_isCell_4 : decode cX11_isCell 4 = .ok (.iload_n 0, 1) := by decide +kernel
theorem dX11_isCell_5 : decode cX11_isCell 5 = .ok (.bipush 25, 2) := by decide +kernel
theorem dX11_isCell_7 : decode cX11_isCell 7 = .ok (.if_icmp .ge 7, 3) := by decide +kernel
theorem dX11_isCell_10 : decode cX11_isCell 10 = .ok (.iconst 1, 1) := by decide +kernel
theorem dX11_isCell_11 : decode cX11_isCell 11 = .ok (.goto 4, 3) := by decide +kernel
theorem dX11_isCell_14 : decode cX11_isCell 14 = .ok (.iconst 0, 1) := by decide +kernel
theorem dX11_isCell_15 : decode cX11_isCell 15 = .ok (.ireturn, 1) := by decide +kernel
theorem dX11_isDigit_0 : decode cX11_isDigit 0 = .ok (.iload_n 0, 1) := by decide +kernel
theorem dX11_isDigit_1 : decode cX11_isDigit 1 = .ok (.ifCond .lt 13, 3) := by decide +kernel
theorem dX11_isDigit_4 : decode cX11_isDigit 4 = .ok (.iload_n 0, 1) := by decide +kernel
theorem dX11_isDigit_5 : decode cX11_isDigit 5 = .ok (.bipush 9, 2) := by decide +kernel
theorem dX11_isDigit_7 : decode cX11_isDigit 7 = .ok (.if_icmp .gt 7, 3) := by decide +kernel
theorem dX11_isDigit_10 : decode cX11_isDigit 10 = .ok (.iconst 1, 1) := by decide +kernel
theorem dX11_isDigit_11 : decode cX11_isDigit 11 = .ok (.goto 4, 3) := by decide +kernel
theorem dX11_isDigit_14 : decode cX11_isDigit 14 = .ok (.iconst 0, 1) := by decide +kernel
theorem dX11_isDigit_15 : decode cX11_isDigit 15 = .ok (.ireturn, 1) := by decide +kernel
theorem dX11_isAskedSpan_0 : decode cX11_isAskedSpan 0 = .ok (.iload_n 0, 1) := by decide +kernel
theorem dX11_isAskedSpan_1 : decode cX11_isAskedSpan 1 = .ok (.ifCond .lt 13, 3) := by decide +kernel
theorem dX11_isAskedSpan_4 : decode cX11_isAskedSpan 4 = .ok (.iload_n 0, 1) := by decide +kernel
theorem dX11_isAskedSpan_5 : decode cX11_isAskedSpan 5 = .ok (.bipush 40, 2) := by decide +kernel
theorem dX11_isAskedSpan_7 : decode cX11_isAskedSpan 7 = .ok (.if_icmp .gt 7, 3) := by decide +kernel
theorem dX11_isAskedSpan_10 : decode cX11_isAskedSpan 10 = .ok (.iconst 1, 1) := by decide +kernel
theorem dX11_isAskedSpan_11 : decode cX11_isAskedSpan 11 = .ok (.goto 4, 3) := by decide +kernel
theorem dX11_isAskedSpan_14 : decode cX11_isAskedSpan 14 = .ok (.iconst 0, 1) := by decide +kernel
theorem dX11_isAskedSpan_15 : decode cX11_isAskedSpan 15 = .ok (.ireturn, 1) := by decide +kernel
theorem dX11_isFractionPart_0 : decode cX11_isFractionPart 0 = .ok (.iload_n 0, 1) := by decide +kernel
theorem dX11_isFractionPart_1 : decode cX11_isFractionPart 1 = .ok (.ifCond .eq 8, 3) := by decide +kernel
theorem dX11_isFractionPart_4 : decode cX11_isFractionPart 4 = .ok (.iload_n 0, 1) := by decide +kernel
theorem dX11_isFractionPart_5 : decode cX11_isFractionPart 5 = .ok (.iconst 1, 1) := by decide +kernel
theorem dX11_isFractionPart_6 : decode cX11_isFractionPart 6 = .ok (.if_icmp .ne 7, 3) := by decide +kernel
theorem dX11_isFractionPart_9 : decode cX11_isFractionPart 9 = .ok (.iconst 1, 1) := by decide +kernel
theorem dX11_isFractionPart_10 : decode cX11_isFractionPart 10 = .ok (.goto 4, 3) := by decide +kernel
theorem dX11_isFractionPart_13 : decode cX11_isFractionPart 13 = .ok (.iconst 0, 1) := by decide +kernel
theorem dX11_isFractionPart_14 : decode cX11_isFractionPart 14 = .ok (.ireturn, 1) := by decide +kernel
theorem dX11_isTape_0 : decode cX11_isTape 0 = .ok (.iload_n 0, 1) := by decide +kernel
theorem dX11_isTape_1 : decode cX11_isTape 1 = .ok (.ifCond .lt 13, 3) := by decide +kernel
theorem dX11_isTape_4 : decode cX11_isTape 4 = .ok (.iload_n 0, 1) := by decide +kernel
theorem dX11_isTape_5 : decode cX11_isTape 5 = .ok (.bipush 6, 2) := by decide +kernel
theorem dX11_isTape_7 : decode cX11_isTape 7 = .ok (.if_icmp .ge 7, 3) := by decide +kernel
theorem dX11_isTape_10 : decode cX11_isTape 10 = .ok (.iconst 1, 1) := by decide +kernel
theorem dX11_isTape_11 : decode cX11_isTape 11 = .ok (.goto 4, 3) := by decide +kernel
theorem dX11_isTape_14 : decode cX11_isTape 14 = .ok (.iconst 0, 1) := by decide +kernel
theorem dX11_isTape_15 : decode cX11_isTape 15 = .ok (.ireturn, 1) := by decide +kernel
theorem dX11_hasItems_0 : decode cX11_hasItems 0 = .ok (.iload_n 2, 1) := by decide +kernel
theorem dX11_hasItems_1 : decode cX11_hasItems 1 = .ok (.ifCond .lt 23, 3) := by decide +kernel
theorem dX11_hasItems_4 : decode cX11_hasItems 4 = .ok (.iload_n 3, 1) := by decide +kernel
theorem dX11_hasItems_5 : decode cX11_hasItems 5 = .ok (.ifCond .lt 19, 3) := by decide +kernel
theorem dX11_hasItems_8 : decode cX11_hasItems 8 = .ok (.iload_n 3, 1) := by decide +kernel
theorem dX11_hasItems_9 : decode cX11_hasItems 9 = .ok (.aload_n 0, 1) := by decide +kernel
theorem dX11_hasItems_10 : decode cX11_hasItems 10 = .ok (.getfield 57, 3) := by decide +kernel
theorem dX11_hasItems_13 : decode cX11_hasItems 13 = .ok (.iload_n 1, 1) := by decide +kernel
theorem dX11_hasItems_14 : decode cX11_hasItems 14 = .ok (.iaload, 1) := by decide +kernel
theorem dX11_hasItems_15 : decode cX11_hasItems 15 = .ok (.iload_n 2, 1) := by decide +kernel
theorem dX11_hasItems_16 : decode cX11_hasItems 16 = .ok (.isub, 1) := by decide +kernel
theorem dX11_hasItems_17 : decode cX11_hasItems 17 = .ok (.if_icmp .gt 7, 3) := by decide +kernel
theorem dX11_hasItems_20 : decode cX11_hasItems 20 = .ok (.iconst 1, 1) := by decide +kernel
theorem dX11_hasItems_21 : decode cX11_hasItems 21 = .ok (.goto 4, 3) := by decide +kernel
theorem dX11_hasItems_24 : decode cX11_hasItems 24 = .ok (.iconst 0, 1) := by decide +kernel
theorem dX11_hasItems_25 : decode cX11_hasItems 25 = .ok (.ireturn, 1) := by decide +kernel
theorem dX11_asItem_0 : decode cX11_asItem 0 = .ok (.iload_n 0, 1) := by decide +kernel
theorem dX11_asItem_1 : decode cX11_asItem 1 = .ok (.tableswitch 61 0 4 #[35, 40, 45, 61, 49], 35) := by decide +kernel
theorem dX11_asItem_36 : decode cX11_asItem 36 = .ok (.lload_n 1, 1) := by decide +kernel
theorem dX11_asItem_37 : decode cX11_asItem 37 = .ok (.l2i, 1) := by decide +kernel
theorem dX11_asItem_38 : decode cX11_asItem 38 = .ok (.i2b, 1) := by decide +kernel
theorem dX11_asItem_39 : decode cX11_asItem 39 = .ok (.i2l, 1) := by decide +kernel
theorem dX11_asItem_40 : decode cX11_asItem 40 = .ok (.lreturn, 1) := by decide +kernel
theorem dX11_asItem_41 : decode cX11_asItem 41 = .ok (.lload_n 1, 1) := by decide +kernel
theorem dX11_asItem_42 : decode cX11_asItem 42 = .ok (.l2i, 1) := by decide +kernel
theorem dX11_asItem_43 : decode cX11_asItem 43 = .ok (.i2s, 1) := by decide +kernel
theorem dX11_asItem_44 : decode cX11_asItem 44 = .ok (.i2l, 1) := by decide +kernel
theorem dX11_asItem_45 : decode cX11_asItem 45 = .ok (.lreturn, 1) := by decide +kernel
theorem dX11_asItem_46 : decode cX11_asItem 46 = .ok (.lload_n 1, 1) := by decide +kernel
theorem dX11_asItem_47 : decode cX11_asItem 47 = .ok (.l2i, 1) := by decide +kernel
theorem dX11_asItem_48 : decode cX11_asItem 48 = .ok (.i2l, 1) := by decide +kernel
theorem dX11_asItem_49 : decode cX11_asItem 49 = .ok (.lreturn, 1) := by decide +kernel
theorem dX11_asItem_50 : decode cX11_asItem 50 = .ok (.lload_n 1, 1) := by decide +kernel
theorem dX11_asItem_51 : decode cX11_asItem 51 = .ok (.lconst 0, 1) := by decide +kernel
theorem dX11_asItem_52 : decode cX11_asItem 52 = .ok (.lcmp, 1) := by decide +kernel
theorem dX11_asItem_53 : decode cX11_asItem 53 = .ok (.ifCond .eq 7, 3) := by decide +kernel
theorem dX11_asItem_56 : decode cX11_asItem 56 = .ok (.lconst 1, 1) := by decide +kernel
theorem dX11_asItem_57 : decode cX11_asItem 57 = .ok (.goto 4, 3) := by decide +kernel
theorem dX11_asItem_60 : decode cX11_asItem 60 = .ok (.lconst 0, 1) := by decide +kernel
theorem dX11_asItem_61 : decode cX11_asItem 61 = .ok (.lreturn, 1) := by decide +kernel
theorem dX11_asItem_62 : decode cX11_asItem 62 = .ok (.lload_n 1, 1) := by decide +kernel
theorem dX11_asItem_63 : decode cX11_asItem 63 = .ok (.lreturn, 1) := by decide +kernel
theorem dX11_nextTo_0 : decode cX11_nextTo 0 = .ok (.iload_n 1, 1) := by decide +kernel
theorem dX11_nextTo_1 : decode cX11_nextTo 1 = .ok (.tableswitch 69 0 2 #[27, 40, 55], 27) := by decide +kernel
theorem dX11_nextTo_28 : decode cX11_nextTo 28 = .ok (.iload_n 0, 1) := by decide +kernel
theorem dX11_nextTo_29 : decode cX11_nextTo 29 = .ok (.iconst 5, 1) := by decide +kernel
theorem dX11_nextTo_30 : decode cX11_nextTo 30 = .ok (.if_icmp .lt 9, 3) := by decide +kernel
theorem dX11_nextTo_33 : decode cX11_nextTo 33 = .ok (.iload_n 0, 1) := by decide +kernel
theorem dX11_nextTo_34 : decode cX11_nextTo 34 = .ok (.iconst 5, 1) := by decide +kernel
theorem dX11_nextTo_35 : decode cX11_nextTo 35 = .ok (.isub, 1) := by decide +kernel
theorem dX11_nextTo_36 : decode cX11_nextTo 36 = .ok (.goto 4, 3) := by decide +kernel
theorem dX11_nextTo_39 : decode cX11_nextTo 39 = .ok (.iconst (-1), 1) := by decide +kernel
theorem dX11_nextTo_40 : decode cX11_nextTo 40 = .ok (.ireturn, 1) := by decide +kernel
theorem dX11_nextTo_41 : decode cX11_nextTo 41 = .ok (.iload_n 0, 1) := by decide +kernel
theorem dX11_nextTo_42 : decode cX11_nextTo 42 = .ok (.iconst 5, 1) := by decide +kernel
theorem dX11_nextTo_43 : decode cX11_nextTo 43 = .ok (.irem, 1) := by decide +kernel
theorem dX11_nextTo_44 : decode cX11_nextTo 44 = .ok (.iconst 4, 1) := by decide +kernel
theorem dX11_nextTo_45 : decode cX11_nextTo 45 = .ok (.if_icmp .ge 9, 3) := by decide +kernel
theorem dX11_nextTo_48 : decode cX11_nextTo 48 = .ok (.iload_n 0, 1) := by decide +kernel
theorem dX11_nextTo_49 : decode cX11_nextTo 49 = .ok (.iconst 1, 1) := by decide +kernel
theorem dX11_nextTo_50 : decode cX11_nextTo 50 = .ok (.iadd, 1) := by decide +kernel
theorem dX11_nextTo_51 : decode cX11_nextTo 51 = .ok (.goto 4, 3) := by decide +kernel
theorem dX11_nextTo_54 : decode cX11_nextTo 54 = .ok (.iconst (-1), 1) := by decide +kernel
theorem dX11_nextTo_55 : decode cX11_nextTo 55 = .ok (.ireturn, 1) := by decide +kernel
theorem dX11_nextTo_56 : decode cX11_nextTo 56 = .ok (.iload_n 0, 1) := by decide +kernel
theorem dX11_nextTo_57 : decode cX11_nextTo 57 = .ok (.bipush 20, 2) := by decide +kernel
theorem dX11_nextTo_59 : decode cX11_nextTo 59 = .ok (.if_icmp .ge 9, 3) := by decide +kernel
theorem dX11_nextTo_62 : decode cX11_nextTo 62 = .ok (.iload_n 0, 1) := by decide +kernel
theorem dX11_nextTo_63 : decode cX11_nextTo 63 = .ok (.iconst 5, 1) := by decide +kernel
theorem dX11_nextTo_64 : decode cX11_nextTo 64 = .ok (.iadd, 1) := by decide +kernel
theorem dX11_nextTo_65 : decode cX11_nextTo 65 = .ok (.goto 4, 3) := by decide +kernel
theorem dX11_nextTo_68 : decode cX11_nextTo 68 = .ok (.iconst (-1), 1) := by decide +kernel
theorem dX11_nextTo_69 : decode cX11_nextTo 69 = .ok (.ireturn, 1) := by decide +kernel
theorem dX11_nextTo_70 : decode cX11_nextTo 70 = .ok (.iload_n 0, 1) := by decide +kernel
theorem dX11_nextTo_71 : decode cX11_nextTo 71 = .ok (.iconst 5, 1) := by decide +kernel
theorem dX11_nextTo_72 : decode cX11_nextTo 72 = .ok (.irem, 1) := by decide +kernel
theorem dX11_nextTo_73 : decode cX11_nextTo 73 = .ok (.ifCond .le 9, 3) := by decide +kernel
theorem dX11_nextTo_76 : decode cX11_nextTo 76 = .ok (.iload_n 0, 1) := by decide +kernel
theorem dX11_nextTo_77 : decode cX11_nextTo 77 = .ok (.iconst 1, 1) := by decide +kernel
theorem dX11_nextTo_78 : decode cX11_nextTo 78 = .ok (.isub, 1) := by decide +kernel
theorem dX11_nextTo_79 : decode cX11_nextTo 79 = .ok (.goto 4, 3) := by decide +kernel
theorem dX11_nextTo_82 : decode cX11_nextTo 82 = .ok (.iconst (-1), 1) := by decide +kernel
theorem dX11_nextTo_83 : decode cX11_nextTo 83 = .ok (.ireturn, 1) := by decide +kernel
theorem dX11_isNext_0 : decode cX11_isNext 0 = .ok (.iconst 0, 1) := by decide +kernel
theorem dX11_isNext_1 : decode cX11_isNext 1 = .ok (.istore_n 2, 1) := by decide +kernel
theorem dX11_isNext_2 : decode cX11_isNext 2 = .ok (.iload_n 2, 1) := by decide +kernel
theorem dX11_isNext_3 : decode cX11_isNext 3 = .ok (.iconst 4, 1) := by decide +kernel
theorem dX11_isNext_4 : decode cX11_isNext 4 = .ok (.if_icmp .ge 20, 3) := by decide +kernel
theorem dX11_isNext_7 : decode cX11_isNext 7 = .ok (.iload_n 0, 1) := by decide +kernel
theorem dX11_isNext_8 : decode cX11_isNext 8 = .ok (.iload_n 2, 1) := by decide +kernel
theorem dX11_isNext_9 : decode cX11_isNext 9 = .ok (.invokestatic 286, 3) := by decide +kernel
theorem dX11_isNext_12 : decode cX11_isNext 12 = .ok (.iload_n 1, 1) := by decide +kernel
theorem dX11_isNext_13 : decode cX11_isNext 13 = .ok (.if_icmp .ne 5, 3) := by decide +kernel
theorem dX11_isNext_16 : decode cX11_isNext 16 = .ok (.iconst 1, 1) := by decide +kernel
theorem dX11_isNext_17 : decode cX11_isNext 17 = .ok (.ireturn, 1) := by decide +kernel
theorem dX11_isNext_18 : decode cX11_isNext 18 = .ok (.iinc 2 1, 3) := by decide +kernel
theorem dX11_isNext_21 : decode cX11_isNext 21 = .ok (.goto (-19), 3) := by decide +kernel
theorem dX11_isNext_24 : decode cX11_isNext 24 = .ok (.iconst 0, 1) := by decide +kernel
theorem dX11_isNext_25 : decode cX11_isNext 25 = .ok (.ireturn, 1) := by decide +kernel
theorem dX11_shareOfCells_0 : decode cX11_shareOfCells 0 = .ok (.iconst 1, 1) := by decide +kernel
theorem dX11_shareOfCells_1 : decode cX11_shareOfCells 1 = .ok (.istore_n 2, 1) := by decide +kernel
theorem dX11_shareOfCells_2 : decode cX11_shareOfCells 2 = .ok (.iload_n 0, 1) := by decide +kernel
theorem dX11_shareOfCells_3 : decode cX11_shareOfCells 3 = .ok (.bipush 25, 2) := by decide +kernel
theorem dX11_shareOfCells_5 : decode cX11_shareOfCells 5 = .ok (.irem, 1) := by decide +kernel
theorem dX11_shareOfCells_6 : decode cX11_shareOfCells 6 = .ok (.ifCond .ne 9, 3) := by decide +kernel
theorem dX11_shareOfCells_9 : decode cX11_shareOfCells 9 = .ok (.bipush 25, 2) := by decide +kernel
theorem dX11_shareOfCells_11 : decode cX11_shareOfCells 11 = .ok (.istore_n 2, 1) := by decide +kernel
theorem dX11_shareOfCells_12 : decode cX11_shareOfCells 12 = .ok (.goto 11, 3) := by decide +kernel
theorem dX11_shareOfCells_15 : decode cX11_shareOfCells 15 = .ok (.iload_n 0, 1) := by decide +kernel
theorem dX11_shareOfCells_16 : decode cX11_shareOfCells 16 = .ok (.iconst 5, 1) := by decide +kernel
theorem dX11_shareOfCells_17 : decode cX11_shareOfCells 17 = .ok (.irem, 1) := by decide +kernel
theorem dX11_shareOfCells_18 : decode cX11_shareOfCells 18 = .ok (.ifCond .ne 5, 3) := by decide +kernel
theorem dX11_shareOfCells_21 : decode cX11_shareOfCells 21 = .ok (.iconst 5, 1) := by decide +kernel
theorem dX11_shareOfCells_22 : decode cX11_shareOfCells 22 = .ok (.istore_n 2, 1) := by decide +kernel
theorem dX11_shareOfCells_23 : decode cX11_shareOfCells 23 = .ok (.iload_n 1, 1) := by decide +kernel
theorem dX11_shareOfCells_24 : decode cX11_shareOfCells 24 = .ok (.ifCond .ne 10, 3) := by decide +kernel
theorem dX11_shareOfCells_27 : decode cX11_shareOfCells 27 = .ok (.iload_n 0, 1) := by decide +kernel
theorem dX11_shareOfCells_28 : decode cX11_shareOfCells 28 = .ok (.iload_n 2, 1) := by decide +kernel
theorem dX11_shareOfCells_29 : decode cX11_shareOfCells 29 = .ok (.idiv, 1) := by decide +kernel
theorem dX11_shareOfCells_30 : decode cX11_shareOfCells 30 = .ok (.i2l, 1) := by decide +kernel
theorem dX11_shareOfCells_31 : decode cX11_shareOfCells 31 = .ok (.goto 8, 3) := by decide +kernel
theorem dX11_shareOfCells_34 : decode cX11_shareOfCells 34 = .ok (.bipush 25, 2) := by decide +kernel
theorem dX11_shareOfCells_36 : decode cX11_shareOfCells 36 = .ok (.iload_n 2, 1) := by decide +kernel
theorem dX11_shareOfCells_37 : decode cX11_shareOfCells 37 = .ok (.idiv, 1) := by decide +kernel
theorem dX11_shareOfCells_38 : decode cX11_shareOfCells 38 = .ok (.i2l, 1) := by decide +kernel
theorem dX11_shareOfCells_39 : decode cX11_shareOfCells 39 = .ok (.lreturn, 1) := by decide +kernel
theorem dX11_blockOf_0 : decode cX11_blockOf 0 = .ok (.aload_n 0, 1) := by decide +kernel
theorem dX11_blockOf_1 : decode cX11_blockOf 1 = .ok (.iload_n 1, 1) := by decide +kernel
theorem dX11_blockOf_2 : decode cX11_blockOf 2 = .ok (.invokevirtual 289, 3) := by decide +kernel
theorem dX11_blockOf_5 : decode cX11_blockOf 5 = .ok (.aload_n 0, 1) := by decide +kernel
theorem dX11_blockOf_6 : decode cX11_blockOf 6 = .ok (.getfield 94, 3) := by decide +kernel
theorem dX11_blockOf_9 : decode cX11_blockOf 9 = .ok (.iload_n 1, 1) := by decide +kernel
theorem dX11_blockOf_10 : decode cX11_blockOf 10 = .ok (.iload_n 2, 1) := by decide +kernel
theorem dX11_blockOf_11 : decode cX11_blockOf 11 = .ok (.invokevirtual 191, 3) := by decide +kernel
theorem dX11_blockOf_14 : decode cX11_blockOf 14 = .ok (.invokestatic 292, 3) := by decide +kernel
theorem dX11_blockOf_17 : decode cX11_blockOf 17 = .ok (.istore_n 3, 1) := by decide +kernel
theorem dX11_blockOf_18 : decode cX11_blockOf 18 = .ok (.bipush (-5), 2) := by decide +kernel
theorem dX11_blockOf_20 : decode cX11_blockOf 20 = .ok (.istore 4, 2) := by decide +kernel
theorem dX11_blockOf_22 : decode cX11_blockOf 22 = .ok (.iconst 0, 1) := by decide +kernel
theorem dX11_blockOf_23 : decode cX11_blockOf 23 = .ok (.istore 5, 2) := by decide +kernel
theorem dX11_blockOf_25 : decode cX11_blockOf 25 = .ok (.iload 5, 2) := by decide +kernel
theorem dX11_blockOf_27 : decode cX11_blockOf 27 = .ok (.bipush 25, 2) := by decide +kernel
theorem dX11_blockOf_29 : decode cX11_blockOf 29 = .ok (.if_icmp .ge 82, 3) := by decide +kernel
theorem dX11_blockOf_32 : decode cX11_blockOf 32 = .ok (.iload_n 3, 1) := by decide +kernel
theorem dX11_blockOf_33 : decode cX11_blockOf 33 = .ok (.bipush 40, 2) := by decide +kernel
theorem dX11_blockOf_35 : decode cX11_blockOf 35 = .ok (.if_icmp .gt 76, 3) := by decide +kernel
theorem dX11_blockOf_38 : decode cX11_blockOf 38 = .ok (.iload 5, 2) := by decide +kernel
theorem dX11_blockOf_40 : decode cX11_blockOf 40 = .ok (.iload_n 2, 1) := by decide +kernel
theorem dX11_blockOf_41 : decode cX11_blockOf 41 = .ok (.if_icmp .eq 64, 3) := by decide +kernel
theorem dX11_blockOf_44 : decode cX11_blockOf 44 = .ok (.iload 5, 2) := by decide +kernel
theorem dX11_blockOf_46 : decode cX11_blockOf 46 = .ok (.aload_n 0, 1) := by decide +kernel
theorem dX11_blockOf_47 : decode cX11_blockOf 47 = .ok (.getfield 90, 3) := by decide +kernel
theorem dX11_blockOf_50 : decode cX11_blockOf 50 = .ok (.getfield 120, 3) := by decide +kernel
theorem dX11_blockOf_53 : decode cX11_blockOf 53 = .ok (.iload_n 1, 1) := by decide +kernel
theorem dX11_blockOf_54 : decode cX11_blockOf 54 = .ok (.iaload, 1) := by decide +kernel
theorem dX11_blockOf_55 : decode cX11_blockOf 55 = .ok (.if_icmp .ne 6, 3) := by decide +kernel
theorem dX11_blockOf_58 : decode cX11_blockOf 58 = .ok (.goto 47, 3) := by decide +kernel
theorem dX11_blockOf_61 : decode cX11_blockOf 61 = .ok (.aload_n 0, 1) := by decide +kernel
theorem dX11_blockOf_62 : decode cX11_blockOf 62 = .ok (.iload_n 1, 1) := by decide +kernel
theorem dX11_blockOf_63 : decode cX11_blockOf 63 = .ok (.invokevirtual 289, 3) := by decide +kernel
theorem dX11_blockOf_66 : decode cX11_blockOf 66 = .ok (.aload_n 0, 1) := by decide +kernel
theorem dX11_blockOf_67 : decode cX11_blockOf 67 = .ok (.getfield 94, 3) := by decide +kernel
theorem dX11_blockOf_70 : decode cX11_blockOf 70 = .ok (.getfield 143, 3) := by decide +kernel
theorem dX11_blockOf_73 : decode cX11_blockOf 73 = .ok (.iload 5, 2) := by decide +kernel
theorem dX11_blockOf_75 : decode cX11_blockOf 75 = .ok (.bipush 99, 2) := by decide +kernel
theorem dX11_blockOf_77 : decode cX11_blockOf 77 = .ok (.iastore, 1) := by decide +kernel
theorem dX11_blockOf_78 : decode cX11_blockOf 78 = .ok (.aload_n 0, 1) := by decide +kernel
theorem dX11_blockOf_79 : decode cX11_blockOf 79 = .ok (.getfield 94, 3) := by decide +kernel
theorem dX11_blockOf_82 : decode cX11_blockOf 82 = .ok (.iload_n 1, 1) := by decide +kernel
theorem dX11_blockOf_83 : decode cX11_blockOf 83 = .ok (.iload_n 2, 1) := by decide +kernel
theorem dX11_blockOf_84 : decode cX11_blockOf 84 = .ok (.invokevirtual 191, 3) := by decide +kernel
theorem dX11_blockOf_87 : decode cX11_blockOf 87 = .ok (.invokestatic 292, 3) := by decide +kernel
theorem dX11_blockOf_90 : decode cX11_blockOf 90 = .ok (.istore 6, 2) := by decide +kernel
theorem dX11_blockOf_92 : decode cX11_blockOf 92 = .ok (.iload 6, 2) := by decide +kernel
theorem dX11_blockOf_94 : decode cX11_blockOf 94 = .ok (.iload_n 3, 1) := by decide +kernel
theorem dX11_blockOf_95 : decode cX11_blockOf 95 = .ok (.if_icmp .le 10, 3) := by decide +kernel
theorem dX11_blockOf_98 : decode cX11_blockOf 98 = .ok (.iload 6, 2) := by decide +kernel
theorem dX11_blockOf_100 : decode cX11_blockOf 100 = .ok (.istore_n 3, 1) := by decide +kernel
theorem dX11_blockOf_101 : decode cX11_blockOf 101 = .ok (.iload 5, 2) := by decide +kernel
theorem dX11_blockOf_103 : decode cX11_blockOf 103 = .ok (.istore 4, 2) := by decide +kernel
theorem dX11_blockOf_105 : decode cX11_blockOf 105 = .ok (.iinc 5 1, 3) := by decide +kernel
theorem dX11_blockOf_108 : decode cX11_blockOf 108 = .ok (.goto (-83), 3) := by decide +kernel
theorem dX11_blockOf_111 : decode cX11_blockOf 111 = .ok (.iload 4, 2) := by decide +kernel
theorem dX11_blockOf_113 : decode cX11_blockOf 113 = .ok (.ireturn, 1) := by decide +kernel
theorem dX11_leaveAloneInTrial_0 : decode cX11_leaveAloneInTrial 0 = .ok (.aload_n 0, 1) := by decide +kernel
theorem dX11_leaveAloneInTrial_1 : decode cX11_leaveAloneInTrial 1 = .ok (.getfield 94, 3) := by decide +kernel
theorem dX11_leaveAloneInTrial_4 : decode cX11_leaveAloneInTrial 4 = .ok (.aload_n 0, 1) := by decide +kernel
theorem dX11_leaveAloneInTrial_5 : decode cX11_leaveAloneInTrial 5 = .ok (.getfield 90, 3) := by decide +kernel
theorem dX11_leaveAloneInTrial_8 : decode cX11_leaveAloneInTrial 8 = .ok (.invokevirtual 187, 3) := by decide +kernel
theorem dX11_leaveAloneInTrial_11 : decode cX11_leaveAloneInTrial 11 = .ok (.iconst 0, 1) := by decide +kernel
theorem dX11_leaveAloneInTrial_12 : decode cX11_leaveAloneInTrial 12 = .ok (.istore_n 2, 1) := by decide +kernel
theorem dX11_leaveAloneInTrial_13 : decode cX11_leaveAloneInTrial 13 = .ok (.iload_n 2, 1) := by decide +kernel
theorem dX11_leaveAloneInTrial_14 : decode cX11_leaveAloneInTrial 14 = .ok (.aload_n 0, 1) := by decide +kernel
theorem dX11_leaveAloneInTrial_15 : decode cX11_leaveAloneInTrial 15 = .ok (.getfield 94, 3) := by decide +kernel
theorem dX11_leaveAloneInTrial_18 : decode cX11_leaveAloneInTrial 18 = .ok (.getfield 245, 3) := by decide +kernel
theorem dX11_leaveAloneInTrial_21 : decode cX11_leaveAloneInTrial 21 = .ok (.if_icmp .ge 24, 3) := by decide +kernel
theorem dX11_leaveAloneInTrial_24 : decode cX11_leaveAloneInTrial 24 = .ok (.iload_n 2, 1) := by decide +kernel
theorem dX11_leaveAloneInTrial_25 : decode cX11_leaveAloneInTrial 25 = .ok (.iload_n 1, 1) := by decide +kernel
theorem dX11_leaveAloneInTrial_26 : decode cX11_leaveAloneInTrial 26 = .ok (.if_icmp .eq 13, 3) := by decide +kernel
theorem dX11_leaveAloneInTrial_29 : decode cX11_leaveAloneInTrial 29 = .ok (.aload_n 0, 1) := by decide +kernel
theorem dX11_leaveAloneInTrial_30 : decode cX11_leaveAloneInTrial 30 = .ok (.getfield 94, 3) := by decide +kernel
theorem dX11_leaveAloneInTrial_33 : decode cX11_leaveAloneInTrial 33 = .ok (.getfield 123, 3) := by decide +kernel
theorem dX11_leaveAloneInTrial_36 : decode cX11_leaveAloneInTrial 36 = .ok (.iload_n 2, 1) := by decide +kernel
theorem dX11_leaveAloneInTrial_37 : decode cX11_leaveAloneInTrial 37 = .ok (.iconst 1, 1) := by decide +kernel
theorem dX11_leaveAloneInTrial_38 : decode cX11_leaveAloneInTrial 38 = .ok (.bastore, 1) := by decide +kernel
theorem dX11_leaveAloneInTrial_39 : decode cX11_leaveAloneInTrial 39 = .ok (.iinc 2 1, 3) := by decide +kernel
theorem dX11_leaveAloneInTrial_42 : decode cX11_leaveAloneInTrial 42 = .ok (.goto (-29), 3) := by decide +kernel
theorem dX11_leaveAloneInTrial_45 : decode cX11_leaveAloneInTrial 45 = .ok (.return_, 1) := by decide +kernel
theorem dX11_orTooLate_0 : decode cX11_orTooLate 0 = .ok (.iload_n 0, 1) := by decide +kernel
theorem dX11_orTooLate_1 : decode cX11_orTooLate 1 = .ok (.bipush (-5), 2) := by decide +kernel
theorem dX11_orTooLate_3 : decode cX11_orTooLate 3 = .ok (.if_icmp .ne 8, 3) := by decide +kernel
theorem dX11_orTooLate_6 : decode cX11_orTooLate 6 = .ok (.bipush 41, 2) := by decide +kernel
theorem dX11_orTooLate_8 : decode cX11_orTooLate 8 = .ok (.goto 4, 3) := by decide +kernel
theorem dX11_orTooLate_11 : decode cX11_orTooLate 11 = .ok (.iload_n 0, 1) := by decide +kernel
theorem dX11_orTooLate_12 : decode cX11_orTooLate 12 = .ok (.ireturn, 1) := by decide +kernel
theorem dX11_trialGoesAsSeen_0 : decode cX11_trialGoesAsSeen 0 = .ok (.iconst 0, 1) := by decide +kernel
theorem dX11_trialGoesAsSeen_1 : decode cX11_trialGoesAsSeen 1 = .ok (.istore_n 1, 1) := by decide +kernel
theorem dX11_trialGoesAsSeen_2 : decode cX11_trialGoesAsSeen 2 = .ok (.iconst 0, 1) := by decide +kernel
theorem dX11_trialGoesAsSeen_3 : decode cX11_trialGoesAsSeen 3 = .ok (.istore_n 2, 1) := by decide +kernel
theorem dX11_trialGoesAsSeen_4 : decode cX11_trialGoesAsSeen 4 = .ok (.iload_n 2, 1) := by decide +kernel
theorem dX11_trialGoesAsSeen_5 : decode cX11_trialGoesAsSeen 5 = .ok (.aload_n 0, 1) := by decide +kernel
theorem dX11_trialGoesAsSeen_6 : decode cX11_trialGoesAsSeen 6 = .ok (.getfield 16, 3) := by decide +kernel
theorem dX11_trialGoesAsSeen_9 : decode cX11_trialGoesAsSeen 9 = .ok (.getfield 226, 3) := by decide +kernel
theorem dX11_trialGoesAsSeen_12 : decode cX11_trialGoesAsSeen 12 = .ok (.if_icmp .ge 23, 3) := by decide +kernel
theorem dX11_trialGoesAsSeen_15 : decode cX11_trialGoesAsSeen 15 = .ok (.iload_n 1, 1) := by decide +kernel
theorem dX11_trialGoesAsSeen_16 : decode cX11_trialGoesAsSeen 16 = .ok (.aload_n 0, 1) := by decide +kernel
theorem dX11_trialGoesAsSeen_17 : decode cX11_trialGoesAsSeen 17 = .ok (.getfield 16, 3) := by decide +kernel
theorem dX11_trialGoesAsSeen_20 : decode cX11_trialGoesAsSeen 20 = .ok (.iload_n 2, 1) := by decide +kernel
theorem dX11_trialGoesAsSeen_21 : decode cX11_trialGoesAsSeen 21 = .ok (.iconst 1, 1) := by decide +kernel
theorem dX11_trialGoesAsSeen_22 : decode cX11_trialGoesAsSeen 22 = .ok (.invokevirtual 229, 3) := by decide +kernel
theorem dX11_trialGoesAsSeen_25 : decode cX11_trialGoesAsSeen 25 = .ok (.invokestatic 295, 3) := by decide +kernel
theorem dX11_trialGoesAsSeen_28 : decode cX11_trialGoesAsSeen 28 = .ok (.istore_n 1, 1) := by decide +kernel
theorem dX11_trialGoesAsSeen_29 : decode cX11_trialGoesAsSeen 29 = .ok (.iinc 2 1, 3) := by decide +kernel
theorem dX11_trialGoesAsSeen_32 : decode cX11_trialGoesAsSeen 32 = .ok (.goto (-28), 3) := by decide +kernel
theorem dX11_trialGoesAsSeen_35 : decode cX11_trialGoesAsSeen 35 = .ok (.iconst 0, 1) := by decide +kernel
theorem dX11_trialGoesAsSeen_36 : decode cX11_trialGoesAsSeen 36 = .ok (.istore_n 2, 1) := by decide +kernel
theorem dX11_trialGoesAsSeen_37 : decode cX11_trialGoesAsSeen 37 = .ok (.iload_n 2, 1) := by decide +kernel
theorem dX11_trialGoesAsSeen_38 : decode cX11_trialGoesAsSeen 38 = .ok (.iload_n 1, 1) := by decide +kernel
theorem dX11_trialGoesAsSeen_39 : decode cX11_trialGoesAsSeen 39 = .ok (.if_icmp .gt 30, 3) := by decide +kernel
theorem dX11_trialGoesAsSeen_42 : decode cX11_trialGoesAsSeen 42 = .ok (.iload_n 2, 1) := by decide +kernel
theorem dX11_trialGoesAsSeen_43 : decode cX11_trialGoesAsSeen 43 = .ok (.ifCond .le 10, 3) := by decide +kernel
theorem dX11_trialGoesAsSeen_46 : decode cX11_trialGoesAsSeen 46 = .ok (.aload_n 0, 1) := by decide +kernel
theorem dX11_trialGoesAsSeen_47 : decode cX11_trialGoesAsSeen 47 = .ok (.getfield 94, 3) := by decide +kernel
theorem dX11_trialGoesAsSeen_50 : decode cX11_trialGoesAsSeen 50 = .ok (.invokevirtual 300, 3) := by decide +kernel
theorem dX11_trialGoesAsSeen_53 : decode cX11_trialGoesAsSeen 53 = .ok (.aload_n 0, 1) := by decide +kernel
theorem dX11_trialGoesAsSeen_54 : decode cX11_trialGoesAsSeen 54 = .ok (.iload_n 2, 1) := by decide +kernel
theorem dX11_trialGoesAsSeen_55 : decode cX11_trialGoesAsSeen 55 = .ok (.invokevirtual 303, 3) := by decide +kernel
theorem dX11_trialGoesAsSeen_58 : decode cX11_trialGoesAsSeen 58 = .ok (.ifCond .ne 5, 3) := by decide +kernel
theorem dX11_trialGoesAsSeen_61 : decode cX11_trialGoesAsSeen 61 = .ok (.iconst 0, 1) := by decide +kernel
theorem dX11_trialGoesAsSeen_62 : decode cX11_trialGoesAsSeen 62 = .ok (.ireturn, 1) := by decide +kernel
theorem dX11_trialGoesAsSeen_63 : decode cX11_trialGoesAsSeen 63 = .ok (.iinc 2 1, 3) := by decide +kernel
theorem dX11_trialGoesAsSeen_66 : decode cX11_trialGoesAsSeen 66 = .ok (.goto (-29), 3) := by decide +kernel
theorem dX11_trialGoesAsSeen_69 : decode cX11_trialGoesAsSeen 69 = .ok (.iconst 1, 1) := by decide +kernel
theorem dX11_trialGoesAsSeen_70 : decode cX11_trialGoesAsSeen 70 = .ok (.ireturn, 1) := by decide +kernel
theorem dX11_trialIsAsSeen_0 : decode cX11_trialIsAsSeen 0 = .ok (.iconst 0, 1) := by decide +kernel
theorem dX11_trialIsAsSeen_1 : decode cX11_trialIsAsSeen 1 = .ok (.istore_n 2, 1) := by decide +kernel
theorem dX11_trialIsAsSeen_2 : decode cX11_trialIsAsSeen 2 = .ok (.iload_n 2, 1) := by decide +kernel
theorem dX11_trialIsAsSeen_3 : decode cX11_trialIsAsSeen 3 = .ok (.aload_n 0, 1) := by decide +kernel
theorem dX11_trialIsAsSeen_4 : decode cX11_trialIsAsSeen 4 = .ok (.getfield 16, 3) := by decide +kernel
theorem dX11_trialIsAsSeen_7 : decode cX11_trialIsAsSeen 7 = .ok (.getfield 226, 3) := by decide +kernel
theorem dX11_trialIsAsSeen_10 : decode cX11_trialIsAsSeen 10 = .ok (.if_icmp .ge 53, 3) := by decide +kernel
theorem dX11_trialIsAsSeen_13 : decode cX11_trialIsAsSeen 13 = .ok (.aload_n 0, 1) := by decide +kernel
theorem dX11_trialIsAsSeen_14 : decode cX11_trialIsAsSeen 14 = .ok (.getfield 16, 3) := by decide +kernel
theorem dX11_trialIsAsSeen_17 : decode cX11_trialIsAsSeen 17 = .ok (.iload_n 2, 1) := by decide +kernel
theorem dX11_trialIsAsSeen_18 : decode cX11_trialIsAsSeen 18 = .ok (.iconst 1, 1) := by decide +kernel
theorem dX11_trialIsAsSeen_19 : decode cX11_trialIsAsSeen 19 = .ok (.invokevirtual 229, 3) := by decide +kernel
theorem dX11_trialIsAsSeen_22 : decode cX11_trialIsAsSeen 22 = .ok (.iload_n 1, 1) := by decide +kernel
theorem dX11_trialIsAsSeen_23 : decode cX11_trialIsAsSeen 23 = .ok (.if_icmp .ne 34, 3) := by decide +kernel
theorem dX11_trialIsAsSeen_26 : decode cX11_trialIsAsSeen 26 = .ok (.aload_n 0, 1) := by decide +kernel
theorem dX11_trialIsAsSeen_27 : decode cX11_trialIsAsSeen 27 = .ok (.getfield 94, 3) := by decide +kernel
theorem dX11_trialIsAsSeen_30 : decode cX11_trialIsAsSeen 30 = .ok (.getfield 120, 3) := by decide +kernel
theorem dX11_trialIsAsSeen_33 : decode cX11_trialIsAsSeen 33 = .ok (.aload_n 0, 1) := by decide +kernel
theorem dX11_trialIsAsSeen_34 : decode cX11_trialIsAsSeen 34 = .ok (.getfield 16, 3) := by decide +kernel
theorem dX11_trialIsAsSeen_37 : decode cX11_trialIsAsSeen 37 = .ok (.iload_n 2, 1) := by decide +kernel
theorem dX11_trialIsAsSeen_38 : decode cX11_trialIsAsSeen 38 = .ok (.iconst 0, 1) := by decide +kernel
theorem dX11_trialIsAsSeen_39 : decode cX11_trialIsAsSeen 39 = .ok (.invokevirtual 229, 3) := by decide +kernel
theorem dX11_trialIsAsSeen_42 : decode cX11_trialIsAsSeen 42 = .ok (.iaload, 1) := by decide +kernel
theorem dX11_trialIsAsSeen_43 : decode cX11_trialIsAsSeen 43 = .ok (.aload_n 0, 1) := by decide +kernel
theorem dX11_trialIsAsSeen_44 : decode cX11_trialIsAsSeen 44 = .ok (.getfield 16, 3) := by decide +kernel
theorem dX11_trialIsAsSeen_47 : decode cX11_trialIsAsSeen 47 = .ok (.iload_n 2, 1) := by decide +kernel
theorem dX11_trialIsAsSeen_48 : decode cX11_trialIsAsSeen 48 = .ok (.iconst 2, 1) := by decide +kernel
theorem dX11_trialIsAsSeen_49 : decode cX11_trialIsAsSeen 49 = .ok (.invokevirtual 229, 3) := by decide +kernel
theorem dX11_trialIsAsSeen_52 : decode cX11_trialIsAsSeen 52 = .ok (.if_icmp .eq 5, 3) := by decide +kernel
theorem dX11_trialIsAsSeen_55 : decode cX11_trialIsAsSeen 55 = .ok (.iconst 0, 1) := by decide +kernel
theorem dX11_trialIsAsSeen_56 : decode cX11_trialIsAsSeen 56 = .ok (.ireturn, 1) := by decide +kernel
theorem dX11_trialIsAsSeen_57 : decode cX11_trialIsAsSeen 57 = .ok (.iinc 2 1, 3) := by decide +kernel
theorem dX11_trialIsAsSeen_60 : decode cX11_trialIsAsSeen 60 = .ok (.goto (-58), 3) := by decide +kernel
theorem dX11_trialIsAsSeen_63 : decode cX11_trialIsAsSeen 63 = .ok (.iconst 1, 1) := by decide +kernel
theorem dX11_trialIsAsSeen_64 : decode cX11_trialIsAsSeen 64 = .ok (.ireturn, 1) := by decide +kernel
theorem dX11_carryOutInTrial_0 : decode cX11_carryOutInTrial 0 = .ok (.iload_n 1, 1) := by decide +kernel
theorem dX11_carryOutInTrial_1 : decode cX11_carryOutInTrial 1 = .ok (.lookupswitch 50 #[(0, 27), (1, 37)], 27) := by decide +kernel
theorem dX11_carryOutInTrial_28 : decode cX11_carryOutInTrial 28 = .ok (.aload_n 0, 1) := by decide +kernel
theorem dX11_carryOutInTrial_29 : decode cX11_carryOutInTrial 29 = .ok (.getfield 94, 3) := by decide +kernel
theorem dX11_carryOutInTrial_32 : decode cX11_carryOutInTrial 32 = .ok (.invokevirtual 300, 3) := by decide +kernel
theorem dX11_carryOutInTrial_35 : decode cX11_carryOutInTrial 35 = .ok (.goto 35, 3) := by decide +kernel
theorem dX11_carryOutInTrial_38 : decode cX11_carryOutInTrial 38 = .ok (.aload_n 0, 1) := by decide +kernel
theorem dX11_carryOutInTrial_39 : decode cX11_carryOutInTrial 39 = .ok (.getfield 94, 3) := by decide +kernel
theorem dX11_carryOutInTrial_42 : decode cX11_carryOutInTrial 42 = .ok (.iload_n 2, 1) := by decide +kernel
theorem dX11_carryOutInTrial_43 : decode cX11_carryOutInTrial 43 = .ok (.bipush 10, 2) := by decide +kernel
theorem dX11_carryOutInTrial_45 : decode cX11_carryOutInTrial 45 = .ok (.invokevirtual 204, 3) := by decide +kernel
theorem dX11_carryOutInTrial_48 : decode cX11_carryOutInTrial 48 = .ok (.goto 22, 3) := by decide +kernel
theorem dX11_carryOutInTrial_51 : decode cX11_carryOutInTrial 51 = .ok (.aload_n 0, 1) := by decide +kernel
theorem dX11_carryOutInTrial_52 : decode cX11_carryOutInTrial 52 = .ok (.getfield 94, 3) := by decide +kernel
theorem dX11_carryOutInTrial_55 : decode cX11_carryOutInTrial 55 = .ok (.getfield 123, 3) := by decide +kernel
theorem dX11_carryOutInTrial_58 : decode cX11_carryOutInTrial 58 = .ok (.iload_n 2, 1) := by decide +kernel
theorem dX11_carryOutInTrial_59 : decode cX11_carryOutInTrial 59 = .ok (.iload_n 1, 1) := by decide +kernel
theorem dX11_carryOutInTrial_60 : decode cX11_carryOutInTrial 60 = .ok (.iconst 2, 1) := by decide +kernel
theorem dX11_carryOutInTrial_61 : decode cX11_carryOutInTrial 61 = .ok (.if_icmp .ne 7, 3) := by decide +kernel
theorem dX11_carryOutInTrial_64 : decode cX11_carryOutInTrial 64 = .ok (.iconst 1, 1) := by decide +kernel
theorem dX11_carryOutInTrial_65 : decode cX11_carryOutInTrial 65 = .ok (.goto 4, 3) := by decide +kernel
theorem dX11_carryOutInTrial_68 : decode cX11_carryOutInTrial 68 = .ok (.iconst 0, 1) := by decide +kernel
theorem dX11_carryOutInTrial_69 : decode cX11_carryOutInTrial 69 = .ok (.bastore, 1) := by decide +kernel
theorem dX11_carryOutInTrial_70 : decode cX11_carryOutInTrial 70 = .ok (.return_, 1) := by decide +kernel
end
section
theorem dX12_init_0 : decode cX12_init 0 = .ok (.aload_n 0, 1) := by decide +kernel
theorem dX12_init_1 : decode cX12_init 1 = .ok (.invokespecial 3, 3) := by decide +kernel
theorem dX12_init_4 : decode cX12_init 4 = .ok (.aload_n 0, 1) := by decide +kernel
theorem dX12_init_5 : decode cX12_init 5 = .ok (.bipush 25, 2) := by decide +kernel
theorem dX12_init_7 : decode cX12_init 7 = .ok (.newarray .int, 2) := by decide +kernel
theorem dX12_init_9 : decode cX12_init 9 = .ok (.putfield 9, 3) := by decide +kernel
theorem dX12_init_12 : decode cX12_init 12 = .ok (.aload_n 0, 1) := by decide +kernel
theorem dX12_init_13 : decode cX12_init 13 = .ok (.bipush 6, 2) := by decide +kernel
theorem dX12_init_15 : decode cX12_init 15 = .ok (.newarray .int, 2) := by decide +kernel
theorem dX12_init_17 : decode cX12_init 17 = .ok (.putfield 15, 3) := by decide +kernel
theorem dX12_init_20 : decode cX12_init 20 = .ok (.aload_n 0, 1) := by decide +kernel
theorem dX12_init_21 : decode cX12_init 21 = .ok (.bipush 6, 2) := by decide +kernel
theorem dX12_init_23 : decode cX12_init 23 = .ok (.newarray .int, 2) := by decide +kernel
theorem dX12_init_25 : decode cX12_init 25 = .ok (.putfield 18, 3) := by decide +kernel
theorem dX12_init_28 : decode cX12_init 28 = .ok (.aload_n 0, 1) := by decide +kernel
theorem dX12_init_29 : decode cX12_init 29 = .ok (.bipush 6, 2) := by decide +kernel
theorem dX12_init_31 : decode cX12_init 31 = .ok (.newarray .int, 2) := by decide +kernel
theorem dX12_init_33 : decode cX12_init 33 = .ok (.putfield 21, 3) := by decide +kernel
theorem dX12_init_36 : decode cX12_init 36 = .ok (.aload_n 0, 1) := by decide +kernel
theorem dX12_init_37 : decode cX12_init 37 = .ok (.bipush 6, 2) := by decide +kernel
theorem dX12_init_39 : decode cX12_init 39 = .ok (.newarray .int, 2) := by decide +kernel
theorem dX12_init_41 : decode cX12_init 41 = .ok (.putfield 24, 3) := by decide +kernel
theorem dX12_init_44 : decode cX12_init 44 = .ok (.aload_n 0, 1) := by decide +kernel
theorem dX12_init_45 : decode cX12_init 45 = .ok (.bipush 24, 2) := by decide +kernel
theorem dX12_init_47 : decode cX12_init 47 = .ok (.newarray .int, 2) := by decide +kernel
theorem dX12_init_49 : decode cX12_init 49 = .ok (.putfield 27, 3) := by decide +kernel
theorem dX12_init_52 : decode cX12_init 52 = .ok (.aload_n 0, 1) := by decide +kernel
theorem dX12_init_53 : decode cX12_init 53 = .ok (.bipush 100, 2) := by decide +kernel
theorem dX12_init_55 : decode cX12_init 55 = .ok (.newarray .int, 2) := by decide +kernel
theorem dX12_init_57 : decode cX12_init 57 = .ok (.putfield 30, 3) := by decide +kernel
theorem dX12_init_60 : decode cX12_init 60 = .ok (.aload_n 0, 1) := by decide +kernel
theorem dX12_init_61 : decode cX12_init 61 = .ok (.bipush 6, 2) := by decide +kernel
theorem dX12_init_63 : decode cX12_init 63 = .ok (.newarray .int, 2) := by decide +kernel
theorem dX12_init_65 : decode cX12_init 65 = .ok (.putfield 33, 3) := by decide +kernel
theorem dX12_init_68 : decode cX12_init 68 = .ok (.aload_n 0, 1) := by decide +kernel
theorem dX12_init_69 : decode cX12_init 69 = .ok (.bipush 61, 2) := by decide +kernel
theorem dX12_init_71 : decode cX12_init 71 = .ok (.newarray .int, 2) := by decide +kernel
theorem dX12_init_73 : decode cX12_init 73 = .ok (.putfield 36, 3) := by decide +kernel
theorem dX12_init_76 : decode cX12_init 76 = .ok (.aload_n 0, 1) := by decide +kernel
theorem dX12_init_77 : decode cX12_init 77 = .ok (.bipush 61, 2) := by decide +kernel
theorem dX12_init_79 : decode cX12_init 79 = .ok (.newarray .int, 2) := by decide +kernel
theorem dX12_init_81 : decode cX12_init 81 = .ok (.putfield 39, 3) := by decide +kernel
theorem dX12_init_84 : decode cX12_init 84 = .ok (.aload_n 0, 1) := by decide +kernel
theorem dX12_init_85 : decode cX12_init 85 = .ok (.bipush 61, 2) := by decide +kernel
theorem dX12_init_87 : decode cX12_init 87 = .ok (.newarray .int, 2) := by decide +kernel
theorem dX12_init_89 : decode cX12_init 89 = .ok (.putfield 42, 3) := by decide +kernel
theorem dX12_init_92 : decode cX12_init 92 = .ok (.aload_n 0, 1) := by decide +kernel
theorem dX12_init_93 : decode cX12_init 93 = .ok (.bipush 61, 2) := by decide +kernel
theorem dX12_init_95 : decode cX12_init 95 = .ok (.newarray .int, 2) := by decide +kernel
theorem dX12_init_97 : decode cX12_init 97 = .ok (.putfield 45, 3) := by decide +kernel
theorem dX12_init_100 : decode cX12_init 100 = .ok (.aload_n 0, 1) := by decide +kernel
theorem dX12_init_101 : decode cX12_init 101 = .ok (.sipush 800, 3) := by decide +kernel
theorem dX12_init_104 : decode cX12_init 104 = .ok (.newarray .int, 2) := by decide +kernel
theorem dX12_init_106 : decode cX12_init 106 = .ok (.putfield 48, 3) := by decide +kernel
theorem dX12_init_109 : decode cX12_init 109 = .ok (.aload_n 0, 1) := by decide +kernel
theorem dX12_init_110 : decode cX12_init 110 = .ok (.bipush 110, 2) := by decide +kernel
theorem dX12_init_112 : decode cX12_init 112 = .ok (.newarray .boolean, 2) := by decide +kernel
theorem dX12_init_114 : decode cX12_init 114 = .ok (.putfield 51, 3) := by decide +kernel
theorem dX12_init_117 : decode cX12_init 117 = .ok (.aload_n 0, 1) := by decide +kernel
theorem dX12_init_118 : decode cX12_init 118 = .ok (.iconst 5, 1) := by decide +kernel
theorem dX12_init_119 : decode cX12_init 119 = .ok (.newarray .int, 2) := by decide +kernel
theorem dX12_init_121 : decode cX12_init 121 = .ok (.putfield 55, 3) := by decide +kernel
theorem dX12_init_124 : decode cX12_init 124 = .ok (.aload_n 0, 1) := by decide +kernel
theorem dX12_init_125 : decode cX12_init 125 = .ok (.iconst 5, 1) := by decide +kernel
theorem dX12_init_126 : decode cX12_init 126 = .ok (.newarray .int, 2) := by decide +kernel
theorem dX12_init_128 : decode cX12_init 128 = .ok (.putfield 58, 3) := by decide +kernel
theorem dX12_init_131 : decode cX12_init 131 = .ok (.aload_n 0, 1) := by decide +kernel
theorem dX12_init_132 : decode cX12_init 132 = .ok (.iconst 5, 1) := by decide +kernel
theorem dX12_init_133 : decode cX12_init 133 = .ok (.newarray .int, 2) := by decide +kernel
theorem dX12_init_135 : decode cX12_init 135 = .ok (.putfield 61, 3) := by decide +kernel
theorem dX12_init_138 : decode cX12_init 138 = .ok (.aload_n 0, 1) := by decide +kernel
theorem dX12_init_139 : decode cX12_init 139 = .ok (.bipush 10, 2) := by decide +kernel
theorem dX12_init_141 : decode cX12_init 141 = .ok (.newarray .int, 2) := by decide +kernel
theorem dX12_init_143 : decode cX12_init 143 = .ok (.putfield 64, 3) := by decide +kernel
theorem dX12_init_146 : decode cX12_init 146 = .ok (.aload_n 0, 1) := by decide +kernel
theorem dX12_init_147 : decode cX12_init 147 = .ok (.bipush 10, 2) := by decide +kernel
theorem dX12_init_149 : decode cX12_init 149 = .ok (.newarray .int, 2) := by decide +kernel
theorem dX12_init_151 : decode cX12_init 151 = .ok (.putfield 67, 3) := by decide +kernel
theorem dX12_init_154 : decode cX12_init 154 = .ok (.aload_n 0, 1) := by decide +kernel
theorem dX12_init_155 : decode cX12_init 155 = .ok (.bipush 8, 2) := by decide +kernel
theorem dX12_init_157 : decode cX12_init 157 = .ok (.newarray .int, 2) := by decide +kernel
theorem dX12_init_159 : decode cX12_init 159 = .ok (.putfield 70, 3) := by decide +kernel
theorem dX12_init_162 : decode cX12_init 162 = .ok (.aload_n 0, 1) := by decide +kernel
theorem dX12_init_163 : decode cX12_init 163 = .ok (.bipush 8, 2) := by decide +kernel
theorem dX12_init_165 : decode cX12_init 165 = .ok (.newarray .int, 2) := by decide +kernel
theorem dX12_init_167 : decode cX12_init 167 = .ok (.putfield 73, 3) := by decide +kernel
theorem dX12_init_170 : decode cX12_init 170 = .ok (.aload_n 0, 1) := by decide +kernel
theorem dX12_init_171 : decode cX12_init 171 = .ok (.bipush 20, 2) := by decide +kernel
theorem dX12_init_173 : decode cX12_init 173 = .ok (.newarray .int, 2) := by decide +kernel
theorem dX12_init_175 : decode cX12_init 175 = .ok (.putfield 76, 3) := by decide +kernel
theorem dX12_init_178 : decode cX12_init 178 = .ok (.aload_n 0, 1) := by decide +kernel
theorem dX12_init_179 : decode cX12_init 179 = .ok (.sipush 130, 3) := by decide +kernel
theorem dX12_init_182 : decode cX12_init 182 = .ok (.newarray .int, 2) := by decide +kernel
theorem dX12_init_184 : decode cX12_init 184 = .ok (.putfield 79, 3) := by decide +kernel
theorem dX12_init_187 : decode cX12_init 187 = .ok (.aload_n 0, 1) := by decide +kernel
theorem dX12_init_188 : decode cX12_init 188 = .ok (.sipush 130, 3) := by decide +kernel
theorem dX12_init_191 : decode cX12_init 191 = .ok (.newarray .int, 2) := by decide +kernel
theorem dX12_init_193 : decode cX12_init 193 = .ok (.putfield 82, 3) := by decide +kernel
theorem dX12_init_196 : decode cX12_init 196 = .ok (.aload_n 0, 1) := by decide +kernel
theorem dX12_init_197 : decode cX12_init 197 = .ok (.sipush 130, 3) := by decide +kernel
theorem dX12_init_200 : decode cX12_init 200 = .ok (.newarray .int, 2) := by decide +kernel
theorem dX12_init_202 : decode cX12_init 202 = .ok (.putfield 85, 3) := by decide +kernel
theorem dX12_init_205 : decode cX12_init 205 = .ok (.aload_n 0, 1) := by decide +kernel
theorem dX12_init_206 : decode cX12_init 206 = .ok (.bipush 25, 2) := by decide +kernel
theorem dX12_init_208 : decode cX12_init 208 = .ok (.newarray .int, 2) := by decide +kernel
theorem dX12_init_210 : decode cX12_init 210 = .ok (.putfield 88, 3) := by decide +kernel
theorem dX12_init_213 : decode cX12_init 213 = .ok (.aload_n 0, 1) := by decide +kernel
theorem dX12_init_214 : decode cX12_init 214 = .ok (.bipush 6, 2) := by decide +kernel
theorem dX12_init_216 : decode cX12_init 216 = .ok (.newarray .int, 2) := by decide +kernel
theorem dX12_init_218 : decode cX12_init 218 = .ok (.putfield 91, 3) := by decide +kernel
theorem dX12_init_221 : decode cX12_init 221 = .ok (.aload_n 0, 1) := by decide +kernel
theorem dX12_init_222 : decode cX12_init 222 = .ok (.bipush 6, 2) := by decide +kernel
theorem dX12_init_224 : decode cX12_init 224 = .ok (.newarray .int, 2) := by decide +kernel
theorem dX12_init_226 : decode cX12_init 226 = .ok (.putfield 94, 3) := by decide +kernel
theorem dX12_init_229 : decode cX12_init 229 = .ok (.aload_n 0, 1) := by decide +kernel
theorem dX12_init_230 : decode cX12_init 230 = .ok (.sipush 360, 3) := by decide +kernel
theorem dX12_init_233 : decode cX12_init 233 = .ok (.newarray .long, 2) := by decide +kernel
theorem dX12_init_235 : decode cX12_init 235 = .ok (.putfield 97, 3) := by decide +kernel
theorem dX12_init_238 : decode cX12_init 238 = .ok (.iconst 0, 1) := by decide +kernel
theorem dX12_init_239 : decode cX12_init 239 = .ok (.istore_n 1, 1) := by decide +kernel
theorem dX12_init_240 : decode cX12_init 240 = .ok (.iload_n 1, 1) := by decide +kernel
theorem dX12_init_241 : decode cX12_init 241 = .ok (.bipush 25, 2) := by decide +kernel
theorem dX12_init_243 : decode cX12_init 243 = .ok (.if_icmp .ge 16, 3) := by decide +kernel
theorem dX12_init_246 : decode cX12_init 246 = .ok (.aload_n 0, 1) := by decide +kernel
theorem dX12_init_247 : decode cX12_init 247 = .ok (.getfield 9, 3) := by decide +kernel
theorem dX12_init_250 : decode cX12_init 250 = .ok (.iload_n 1, 1) := by decide +kernel
theorem dX12_init_251 : decode cX12_init 251 = .ok (.iconst 5, 1) := by decide +kernel
theorem dX12_init_252 : decode cX12_init 252 = .ok (.iastore, 1) := by decide +kernel
theorem dX12_init_253 : decode cX12_init 253 = .ok (.iinc 1 1, 3) := by decide +kernel
theorem dX12_init_256 : decode cX12_init 256 = .ok (.goto (-16), 3) := by decide +kernel
theorem dX12_init_259 : decode cX12_init 259 = .ok (.aload_n 0, 1) := by decide +kernel
theorem dX12_init_260 : decode cX12_init 260 = .ok (.iconst (-1), 1) := by decide +kernel
theorem dX12_init_261 : decode cX12_init 261 = .ok (.putfield 101, 3) := by decide +kernel
theorem dX12_init_264 : decode cX12_init 264 = .ok (.iconst 0, 1) := by decide +kernel
theorem dX12_init_265 : decode cX12_init 265 = .ok (.istore_n 1, 1) := by decide +kernel
theorem dX12_init_266 : decode cX12_init 266 = .ok (.iload_n 1, 1) := by decide +kernel
theorem dX12_init_267 : decode cX12_init 267 = .ok (.bipush 6, 2) := by decide +kernel
theorem dX12_init_269 : decode cX12_init 269 = .ok (.if_icmp .ge 16, 3) := by decide +kernel
theorem dX12_init_272 : decode cX12_init 272 = .ok (.aload_n 0, 1) := by decide +kernel
theorem dX12_init_273 : decode cX12_init 273 = .ok (.getfield 91, 3) := by decide +kernel
theorem dX12_init_276 : decode cX12_init 276 = .ok (.iload_n 1, 1) := by decide +kernel
theorem dX12_init_277 : decode cX12_init 277 = .ok (.iconst (-1), 1) := by decide +kernel
theorem dX12_init_278 : decode cX12_init 278 = .ok (.iastore, 1) := by decide +kernel
theorem dX12_init_279 : decode cX12_init 279 = .ok (.iinc 1 1, 3) := by decide +kernel
theorem dX12_init_282 : decode cX12_init 282 = .ok (.goto (-16), 3) := by decide +kernel
theorem dX12_init_285 : decode cX12_init 285 = .ok (.return_, 1) := by decide +kernel
theorem dX12_within_0 : decode cX12_within 0 = .ok (.iload_n 0, 1) := by decide +kernel
theorem dX12_within_1 : decode cX12_within 1 = .ok (.iload_n 1, 1) := by decide +kernel
theorem dX12_within_2 : decode cX12_within 2 = .ok (.if_icmp .lt 12, 3) := by decide +kernel
theorem dX12_within_5 : decode cX12_within 5 = .ok (.iload_n 0, 1) := by decide +kernel
theorem dX12_within_6 : decode cX12_within 6 = .ok (.iload_n 2, 1) := by decide +kernel
theorem dX12_within_7 : decode cX12_within 7 = .ok (.if_icmp .gt 7, 3) := by decide +kernel
theorem dX12_within_10 : decode cX12_within 10 = .ok (.iconst 1, 1) := by decide +kernel
theorem dX12_within_11 : decode cX12_within 11 = .ok (.goto 4, 3) := by decide +kernel
theorem dX12_within_14 : decode cX12_within 14 = .ok (.iconst 0, 1) := by decide +kernel
theorem dX12_within_15 : decode cX12_within 15 = .ok (.ireturn, 1) := by decide +kernel
theorem dX12_isOne_0 : decode cX12_isOne 0 = .ok (.iload_n 1, 1) := by decide +kernel
theorem dX12_isOne_1 : decode cX12_isOne 1 = .ok (.iconst 0, 1) := by decide +kernel
theorem dX12_isOne_2 : decode cX12_isOne 2 = .ok (.aload_n 0, 1) := by decide +kernel
theorem dX12_isOne_3 : decode cX12_isOne 3 = .ok (.getfield 105, 3) := by decide +kernel
theorem dX12_isOne_6 : decode cX12_isOne 6 = .ok (.iconst 1, 1) := by decide +kernel
theorem dX12_isOne_7 : decode cX12_isOne 7 = .ok (.isub, 1) := by decide +kernel
theorem dX12_isOne_8 : decode cX12_isOne 8 = .ok (.invokestatic 108, 3) := by decide +kernel
theorem dX12_isOne_11 : decode cX12_isOne 11 = .ok (.ireturn, 1) := by decide +kernel
theorem dX12_isCell_0 : decode cX12_isCell 0 = .ok (.iload_n 0, 1) := by decide +kernel
theorem dX12_isCell_1 : decode cX12_isCell 1 = .ok (.iconst 0, 1) := by decide +kernel
theorem dX12_isCell_2 : decode cX12_isCell 2 = .ok (.bipush 24, 2) := by decide +kernel
theorem dX12_isCell_4 : decode cX12_isCell 4 = .ok (.invokestatic 108, 3) := by decide +kernel
theorem dX12_isCell_7 : decode cX12_isCell 7 = .ok (.ireturn, 1) := by decide +kernel
theorem dX12_one_0 : decode cX12_one 0 = .ok (.iload_n 1, 1) := by decide +kernel
theorem dX12_one_1 : decode cX12_one 1 = .ok (.iconst 0, 1) := by decide +kernel
theorem dX12_one_2 : decode cX12_one 2 = .ok (.bipush 6, 2) := by decide +kernel
theorem dX12_one_4 : decode cX12_one 4 = .ok (.invokestatic 108, 3) := by decide +kernel
theorem dX12_one_7 : decode cX12_one 7 = .ok (.ifCond .eq 10, 3) := by decide +kernel
theorem dX12_one_10 : decode cX12_one 10 = .ok (.iload_n 3, 1) := by decide +kernel
theorem dX12_one_11 : decode cX12_one 11 = .ok (.invokestatic 112, 3) := by decide +kernel
theorem dX12_one_14 : decode cX12_one 14 = .ok (.ifCond .ne 5, 3) := by decide +kernel
theorem dX12_one_17 : decode cX12_one 17 = .ok (.iconst (-1), 1) := by decide +kernel
theorem dX12_one_18 : decode cX12_one 18 = .ok (.ireturn, 1) := by decide +kernel
theorem dX12_one_19 : decode cX12_one 19 = .ok (.iload_n 2, 1) := by decide +kernel
theorem dX12_one_20 : decode cX12_one 20 = .ok (.iconst 0, 1) := by decide +kernel
theorem dX12_one_21 : decode cX12_one 21 = .ok (.bipush 9, 2) := by decide +kernel
theorem dX12_one_23 : decode cX12_one 23 = .ok (.invokestatic 108, 3) := by decide +kernel
theorem dX12_one_26 : decode cX12_one 26 = .ok (.ifCond .ne 6, 3) := by decide +kernel
theorem dX12_one_29 : decode cX12_one 29 = .ok (.bipush (-2), 2) := by decide +kernel
theorem dX12_one_31 : decode cX12_one 31 = .ok (.ireturn, 1) := by decide +kernel
theorem dX12_one_32 : decode cX12_one 32 = .ok (.aload_n 0, 1) := by decide +kernel
theorem dX12_one_33 : decode cX12_one 33 = .ok (.getfield 105, 3) := by decide +kernel
theorem dX12_one_36 : decode cX12_one 36 = .ok (.bipush 6, 2) := by decide +kernel
theorem dX12_one_38 : decode cX12_one 38 = .ok (.if_icmp .ne 6, 3) := by decide +kernel
theorem dX12_one_41 : decode cX12_one 41 = .ok (.bipush (-4), 2) := by decide +kernel
theorem dX12_one_43 : decode cX12_one 43 = .ok (.ireturn, 1) := by decide +kernel
theorem dX12_one_44 : decode cX12_one 44 = .ok (.aload_n 0, 1) := by decide +kernel
theorem dX12_one_45 : decode cX12_one 45 = .ok (.getfield 15, 3) := by decide +kernel
theorem dX12_one_48 : decode cX12_one 48 = .ok (.aload_n 0, 1) := by decide +kernel
theorem dX12_one_49 : decode cX12_one 49 = .ok (.getfield 105, 3) := by decide +kernel
theorem dX12_one_52 : decode cX12_one 52 = .ok (.iload_n 1, 1) := by decide +kernel
theorem dX12_one_53 : decode cX12_one 53 = .ok (.iastore, 1) := by decide +kernel
theorem dX12_one_54 : decode cX12_one 54 = .ok (.aload_n 0, 1) := by decide +kernel
theorem dX12_one_55 : decode cX12_one 55 = .ok (.getfield 18, 3) := by decide +kernel
theorem dX12_one_58 : decode cX12_one 58 = .ok (.aload_n 0, 1) := by decide +kernel
theorem dX12_one_59 : decode cX12_one 59 = .ok (.getfield 105, 3) := by decide +kernel
theorem dX12_one_62 : decode cX12_one 62 = .ok (.iload_n 2, 1) := by decide +kernel
theorem dX12_one_63 : decode cX12_one 63 = .ok (.iastore, 1) := by decide +kernel
theorem dX12_one_64 : decode cX12_one 64 = .ok (.aload_n 0, 1) := by decide +kernel
theorem dX12_one_65 : decode cX12_one 65 = .ok (.getfield 21, 3) := by decide +kernel
theorem dX12_one_68 : decode cX12_one 68 = .ok (.aload_n 0, 1) := by decide +kernel
theorem dX12_one_69 : decode cX12_one 69 = .ok (.getfield 105, 3) := by decide +kernel
theorem dX12_one_72 : decode cX12_one 72 = .ok (.iload_n 3, 1) := by decide +kernel
theorem dX12_one_73 : decode cX12_one 73 = .ok (.iastore, 1) := by decide +kernel
theorem dX12_one_74 : decode cX12_one 74 = .ok (.aload_n 0, 1) := by decide +kernel
theorem dX12_one_75 : decode cX12_one 75 = .ok (.getfield 24, 3) := by decide +kernel
theorem dX12_one_78 : decode cX12_one 78 = .ok (.aload_n 0, 1) := by decide +kernel
theorem dX12_one_79 : decode cX12_one 79 = .ok (.getfield 105, 3) := by decide +kernel
theorem dX12_one_82 : decode cX12_one 82 = .ok (.iconst 0, 1) := by decide +kernel
theorem dX12_one_83 : decode cX12_one 83 = .ok (.iastore, 1) := by decide +kernel
theorem dX12_one_84 : decode cX12_one 84 = .ok (.iconst 0, 1) := by decide +kernel
theorem dX12_one_85 : decode cX12_one 85 = .ok (.istore 4, 2) := by decide +kernel
theorem dX12_one_87 : decode cX12_one 87 = .ok (.iload 4, 2) := by decide +kernel
theorem dX12_one_89 : decode cX12_one 89 = .ok (.iconst 4, 1) := by decide +kernel
theorem dX12_one_90 : decode cX12_one 90 = .ok (.if_icmp .ge 24, 3) := by decide +kernel
theorem dX12_one_93 : decode cX12_one 93 = .ok (.aload_n 0, 1) := by decide +kernel
theorem dX12_one_94 : decode cX12_one 94 = .ok (.getfield 27, 3) := by decide +kernel
theorem dX12_one_97 : decode cX12_one 97 = .ok (.iconst 4, 1) := by decide +kernel
theorem dX12_one_98 : decode cX12_one 98 = .ok (.aload_n 0, 1) := by decide +kernel
theorem dX12_one_99 : decode cX12_one 99 = .ok (.getfield 105, 3) := by decide +kernel
theorem dX12_one_102 : decode cX12_one 102 = .ok (.imul, 1) := by decide +kernel
theorem dX12_one_103 : decode cX12_one 103 = .ok (.iload 4, 2) := by decide +kernel
theorem dX12_one_105 : decode cX12_one 105 = .ok (.iadd, 1) := by decide +kernel
theorem dX12_one_106 : decode cX12_one 106 = .ok (.iconst 0, 1) := by decide +kernel
theorem dX12_one_107 : decode cX12_one 107 = .ok (.iastore, 1) := by decide +kernel
theorem dX12_one_108 : decode cX12_one 108 = .ok (.iinc 4 1, 3) := by decide +kernel
theorem dX12_one_111 : decode cX12_one 111 = .ok (.goto (-24), 3) := by decide +kernel
theorem dX12_one_114 : decode cX12_one 114 = .ok (.aload_n 0, 1) := by decide +kernel
theorem dX12_one_115 : decode cX12_one 115 = .ok (.dup, 1) := by decide +kernel
theorem dX12_one_116 : decode cX12_one 116 = .ok (.getfield 105, 3) := by decide +kernel
theorem dX12_one_119 : decode cX12_one 119 = .ok (.dup_x1, 1) := by decide +kernel
theorem dX12_one_120 : decode cX12_one 120 = .ok (.iconst 1, 1) := by decide +kernel
theorem dX12_one_121 : decode cX12_one 121 = .ok (.iadd, 1) := by decide +kernel
theorem dX12_one_122 : decode cX12_one 122 = .ok (.putfield 105, 3) := by decide +kernel
theorem dX12_one_125 : decode cX12_one 125 = .ok (.ireturn, 1) := by decide +kernel
theorem dX12_of_0 : decode cX12_of 0 = .ok (.aload_n 0, 1) := by decide +kernel
theorem dX12_of_1 : decode cX12_of 1 = .ok (.iload_n 1, 1) := by decide +kernel
theorem dX12_of_2 : decode cX12_of 2 = .ok (.invokevirtual 116, 3) := by decide +kernel
theorem dX12_of_5 : decode cX12_of 5 = .ok (.ifCond .ne 5, 3) := by decide +kernel
theorem dX12_of_8 : decode cX12_of 8 = .ok (.iconst (-1), 1) := by decide +kernel
theorem dX12_of_9 : decode cX12_of 9 = .ok (.ireturn, 1) := by decide +kernel
theorem dX12_of_10 : decode cX12_of 10 = .ok (.iload_n 2, 1) := by decide +kernel
theorem dX12_of_11 : decode cX12_of 11 = .ok (.tableswitch 77 0 5 #[37, 44, 51, 58, 65, 71], 37) := by decide +kernel
theorem dX12_of_48 : decode cX12_of 48 = .ok (.aload_n 0, 1) := by decide +kernel
theorem dX12_of_49 : decode cX12_of 49 = .ok (.getfield 15, 3) := by decide +kernel
theorem dX12_of_52 : decode cX12_of 52 = .ok (.iload_n 1, 1) := by decide +kernel
theorem dX12_of_53 : decode cX12_of 53 = .ok (.iaload, 1) := by decide +kernel
theorem dX12_of_54 : decode cX12_of 54 = .ok (.ireturn, 1) := by decide +kernel
theorem dX12_of_55 : decode cX12_of 55 = .ok (.aload_n 0, 1) := by decide +kernel
theorem dX12_of_56 : decode cX12_of 56 = .ok (.getfield 18, 3) := by decide +kernel
theorem dX12_of_59 : decode cX12_of 59 = .ok (.iload_n 1, 1) := by decide +kernel
theorem dX12_of_60 : decode cX12_of 60 = .ok (.iaload, 1) := by decide +kernel
theorem dX12_of_61 : decode cX12_of 61 = .ok (.ireturn, 1) := by decide +kernel
theorem dX12_of_62 : decode cX12_of 62 = .ok (.aload_n 0, 1) := by decide +kernel
theorem dX12_of_63 : decode cX12_of 63 = .ok (.getfield 21, 3) := by decide +kernel
theorem dX12_of_66 : decode cX12_of 66 = .ok (.iload_n 1, 1) := by decide +kernel
theorem dX12_of_67 : decode cX12_of 67 = .ok (.iaload, 1) := by decide +kernel
theorem dX12_of_68 : decode cX12_of 68 = .ok (.ireturn, 1) := by decide +kernel
theorem dX12_of_69 : decode cX12_of 69 = .ok (.aload_n 0, 1) := by decide +kernel
theorem dX12_of_70 : decode cX12_of 70 = .ok (.getfield 24, 3) := by decide +kernel
theorem dX12_of_73 : decode cX12_of 73 = .ok (.iload_n 1, 1) := by decide +kernel
theorem dX12_of_74 : decode cX12_of 74 = .ok (.iaload, 1) := by decide +kernel
theorem dX12_of_75 : decode cX12_of 75 = .ok (.ireturn, 1) := by decide +kernel
theorem dX12_of_76 : decode cX12_of 76 = .ok (.aload_n 0, 1) := by decide +kernel
theorem dX12_of_77 : decode cX12_of 77 = .ok (.iload_n 1, 1) := by decide +kernel
theorem dX12_of_78 : decode cX12_of 78 = .ok (.invokevirtual 119, 3) := by decide +kernel
theorem dX12_of_81 : decode cX12_of 81 = .ok (.ireturn, 1) := by decide +kernel
theorem dX12_of_82 : decode cX12_of 82 = .ok (.aload_n 0, 1) := by decide +kernel
theorem dX12_of_83 : decode cX12_of 83 = .ok (.iload_n 1, 1) := by decide +kernel
theorem dX12_of_84 : decode cX12_of 84 = .ok (.invokevirtual 123, 3) := by decide +kernel
theorem dX12_of_87 : decode cX12_of 87 = .ok (.ireturn, 1) := by decide +kernel
theorem dX12_of_88 : decode cX12_of 88 = .ok (.iconst (-1), 1) := by decide +kernel
theorem dX12_of_89 : decode cX12_of 89 = .ok (.ireturn, 1) := by decide +kernel
theorem dX12_pull_0 : decode cX12_pull 0 = .ok (.aload_n 0, 1) := by decide +kernel
theorem dX12_pull_1 : decode cX12_pull 1 = .ok (.iload_n 1, 1) := by decide +kernel
theorem dX12_pull_2 : decode cX12_pull 2 = .ok (.invokevirtual 116, 3) := by decide +kernel
theorem dX12_pull_5 : decode cX12_pull 5 = .ok (.ifCond .eq 19, 3) := by decide +kernel
theorem dX12_pull_8 : decode cX12_pull 8 = .ok (.iload_n 2, 1) := by decide +kernel
theorem dX12_pull_9 : decode cX12_pull 9 = .ok (.invokestatic 112, 3) := by decide +kernel
theorem dX12_pull_12 : decode cX12_pull 12 = .ok (.ifCond .eq 12, 3) := by decide +kernel
theorem dX12_pull_15 : decode cX12_pull 15 = .ok (.aload_n 0, 1) := by decide +kernel
theorem dX12_pull_16 : decode cX12_pull 16 = .ok (.iload_n 1, 1) := by decide +kernel
theorem dX12_pull_17 : decode cX12_pull 17 = .ok (.iload_n 2, 1) := by decide +kernel
theorem dX12_pull_18 : decode cX12_pull 18 = .ok (.invokevirtual 126, 3) := by decide +kernel
theorem dX12_pull_21 : decode cX12_pull 21 = .ok (.goto 6, 3) := by decide +kernel
theorem dX12_pull_24 : decode cX12_pull 24 = .ok (.sipush (-10001), 3) := by decide +kernel
theorem dX12_pull_27 : decode cX12_pull 27 = .ok (.ireturn, 1) := by decide +kernel
theorem dX12_put_0 : decode cX12_put 0 = .ok (.aload_n 0, 1) := by decide +kernel
theorem dX12_put_1 : decode cX12_put 1 = .ok (.iload_n 1, 1) := by decide +kernel
theorem dX12_put_2 : decode cX12_put 2 = .ok (.invokevirtual 116, 3) := by decide +kernel
theorem dX12_put_5 : decode cX12_put 5 = .ok (.ifCond .eq 10, 3) := by decide +kernel
theorem dX12_put_8 : decode cX12_put 8 = .ok (.iload_n 2, 1) := by decide +kernel
theorem dX12_put_9 : decode cX12_put 9 = .ok (.invokestatic 112, 3) := by decide +kernel
theorem dX12_put_12 : decode cX12_put 12 = .ok (.ifCond .ne 5, 3) := by decide +kernel
theorem dX12_put_15 : decode cX12_put 15 = .ok (.iconst (-1), 1) := by decide +kernel
theorem dX12_put_16 : decode cX12_put 16 = .ok (.ireturn, 1) := by decide +kernel
theorem dX12_put_17 : decode cX12_put 17 = .ok (.aload_n 0, 1) := by decide +kernel
theorem dX12_put_18 : decode cX12_put 18 = .ok (.getfield 21, 3) := by decide +kernel
theorem dX12_put_21 : decode cX12_put 21 = .ok (.iload_n 1, 1) := by decide +kernel
theorem dX12_put_22 : decode cX12_put 22 = .ok (.iaload, 1) := by decide +kernel
theorem dX12_put_23 : decode cX12_put 23 = .ok (.istore_n 3, 1) := by decide +kernel
theorem dX12_put_24 : decode cX12_put 24 = .ok (.aload_n 0, 1) := by decide +kernel
theorem dX12_put_25 : decode cX12_put 25 = .ok (.getfield 21, 3) := by decide +kernel
theorem dX12_put_28 : decode cX12_put 28 = .ok (.iload_n 1, 1) := by decide +kernel
theorem dX12_put_29 : decode cX12_put 29 = .ok (.iload_n 2, 1) := by decide +kernel
theorem dX12_put_30 : decode cX12_put 30 = .ok (.iastore, 1) := by decide +kernel
theorem dX12_put_31 : decode cX12_put 31 = .ok (.iload_n 3, 1) := by decide +kernel
theorem dX12_put_32 : decode cX12_put 32 = .ok (.ireturn, 1) := by decide +kernel
theorem dX12_wear_0 : decode cX12_wear 0 = .ok (.iload_n 1, 1) := by decide +kernel
theorem dX12_wear_1 : decode cX12_wear 1 = .ok (.invokestatic 112, 3) := by decide +kernel
theorem dX12_wear_4 : decode cX12_wear 4 = .ok (.ifCond .ne 5, 3) := by decide +kernel
theorem dX12_wear_7 : decode cX12_wear 7 = .ok (.iconst (-1), 1) := by decide +kernel
theorem dX12_wear_8 : decode cX12_wear 8 = .ok (.ireturn, 1) := by decide +kernel
theorem dX12_wear_9 : decode cX12_wear 9 = .ok (.iload_n 2, 1) := by decide +kernel
theorem dX12_wear_10 : decode cX12_wear 10 = .ok (.iconst 0, 1) := by decide +kernel
theorem dX12_wear_11 : decode cX12_wear 11 = .ok (.bipush 99, 2) := by decide +kernel
theorem dX12_wear_13 : decode cX12_wear 13 = .ok (.invokestatic 108, 3) := by decide +kernel
theorem dX12_wear_16 : decode cX12_wear 16 = .ok (.ifCond .ne 6, 3) := by decide +kernel
theorem dX12_wear_19 : decode cX12_wear 19 = .ok (.bipush (-2), 2) := by decide +kernel
theorem dX12_wear_21 : decode cX12_wear 21 = .ok (.ireturn, 1) := by decide +kernel
theorem dX12_wear_22 : decode cX12_wear 22 = .ok (.aload_n 0, 1) := by decide +kernel
theorem dX12_wear_23 : decode cX12_wear 23 = .ok (.getfield 9, 3) := by decide +kernel
theorem dX12_wear_26 : decode cX12_wear 26 = .ok (.iload_n 1, 1) := by decide +kernel
theorem dX12_wear_27 : decode cX12_wear 27 = .ok (.iaload, 1) := by decide +kernel
theorem dX12_wear_28 : decode cX12_wear 28 = .ok (.istore_n 3, 1) := by decide +kernel
theorem dX12_wear_29 : decode cX12_wear 29 = .ok (.aload_n 0, 1) := by decide +kernel
theorem dX12_wear_30 : decode cX12_wear 30 = .ok (.getfield 9, 3) := by decide +kernel
theorem dX12_wear_33 : decode cX12_wear 33 = .ok (.iload_n 1, 1) := by decide +kernel
theorem dX12_wear_34 : decode cX12_wear 34 = .ok (.iload_n 2, 1) := by decide +kernel
theorem dX12_wear_35 : decode cX12_wear 35 = .ok (.iastore, 1) := by decide +kernel
theorem dX12_wear_36 : decode cX12_wear 36 = .ok (.iload_n 3, 1) := by decide +kernel
theorem dX12_wear_37 : decode cX12_wear 37 = .ok (.ireturn, 1) := by decide +kernel
theorem dX12_away_0 : decode cX12_away 0 = .ok (.aload_n 0, 1) := by decide +kernel
theorem dX12_away_1 : decode cX12_away 1 = .ok (.iload_n 1, 1) := by decide +kernel
theorem dX12_away_2 : decode cX12_away 2 = .ok (.invokevirtual 116, 3) := by decide +kernel
theorem dX12_away_5 : decode cX12_away 5 = .ok (.ifCond .ne 5, 3) := by decide +kernel
theorem dX12_away_8 : decode cX12_away 8 = .ok (.iconst (-1), 1) := by decide +kernel
theorem dX12_away_9 : decode cX12_away 9 = .ok (.ireturn, 1) := by decide +kernel
theorem dX12_away_10 : decode cX12_away 10 = .ok (.aload_n 0, 1) := by decide +kernel
theorem dX12_away_11 : decode cX12_away 11 = .ok (.getfield 24, 3) := by decide +kernel
theorem dX12_away_14 : decode cX12_away 14 = .ok (.iload_n 1, 1) := by decide +kernel
theorem dX12_away_15 : decode cX12_away 15 = .ok (.iaload, 1) := by decide +kernel
theorem dX12_away_16 : decode cX12_away 16 = .ok (.istore_n 3, 1) := by decide +kernel
theorem dX12_away_17 : decode cX12_away 17 = .ok (.aload_n 0, 1) := by decide +kernel
theorem dX12_away_18 : decode cX12_away 18 = .ok (.getfield 24, 3) := by decide +kernel
theorem dX12_away_21 : decode cX12_away 21 = .ok (.iload_n 1, 1) := by decide +kernel
theorem dX12_away_22 : decode cX12_away 22 = .ok (.iload_n 2, 1) := by decide +kernel
theorem dX12_away_23 : decode cX12_away 23 = .ok (.ifCond .eq 7, 3) := by decide +kernel
theorem dX12_away_26 : decode cX12_away 26 = .ok (.iconst 1, 1) := by decide +kernel
theorem dX12_away_27 : decode cX12_away 27 = .ok (.goto 4, 3) := by decide +kernel
theorem dX12_away_30 : decode cX12_away 30 = .ok (.iconst 0, 1) := by decide +kernel
theorem dX12_away_31 : decode cX12_away 31 = .ok (.iastore, 1) := by decide +kernel
theorem dX12_away_32 : decode cX12_away 32 = .ok (.iload_n 3, 1) := by decide +kernel
theorem dX12_away_33 : decode cX12_away 33 = .ok (.ireturn, 1) := by decide +kernel
theorem dX12_row_0 : decode cX12_row 0 = .ok (.aload_n 0, 1) := by decide +kernel
theorem dX12_row_1 : decode cX12_row 1 = .ok (.iload_n 1, 1) := by decide +kernel
theorem dX12_row_2 : decode cX12_row 2 = .ok (.invokevirtual 116, 3) := by decide +kernel
theorem dX12_row_5 : decode cX12_row 5 = .ok (.ifCond .eq 12, 3) := by decide +kernel
theorem dX12_row_8 : decode cX12_row 8 = .ok (.iload_n 2, 1) := by decide +kernel
theorem dX12_row_9 : decode cX12_row 9 = .ok (.iconst 0, 1) := by decide +kernel
theorem dX12_row_10 : decode cX12_row 10 = .ok (.iconst 3, 1) := by decide +kernel
theorem dX12_row_11 : decode cX12_row 11 = .ok (.invokestatic 108, 3) := by decide +kernel
theorem dX12_row_14 : decode cX12_row 14 = .ok (.ifCond .ne 5, 3) := by decide +kernel
theorem dX12_row_17 : decode cX12_row 17 = .ok (.iconst (-1), 1) := by decide +kernel
theorem dX12_row_18 : decode cX12_row 18 = .ok (.ireturn, 1) := by decide +kernel
theorem dX12_row_19 : decode cX12_row 19 = .ok (.iload_n 3, 1) := by decide +kernel
theorem dX12_row_20 : decode cX12_row 20 = .ok (.iconst 0, 1) := by decide +kernel
theorem dX12_row_21 : decode cX12_row 21 = .ok (.bipush 9, 2) := by decide +kernel
theorem dX12_row_23 : decode cX12_row 23 = .ok (.invokestatic 108, 3) := by decide +kernel
theorem dX12_row_26 : decode cX12_row 26 = .ok (.ifCond .ne 6, 3) := by decide +kernel
theorem dX12_row_29 : decode cX12_row 29 = .ok (.bipush (-2), 2) := by decide +kernel
theorem dX12_row_31 : decode cX12_row 31 = .ok (.ireturn, 1) := by decide +kernel
theorem dX12_row_32 : decode cX12_row 32 = .ok (.aload_n 0, 1) := by decide +kernel
theorem dX12_row_33 : decode cX12_row 33 = .ok (.getfield 15, 3) := by decide +kernel
theorem dX12_row_36 : decode cX12_row 36 = .ok (.iload_n 1, 1) := by decide +kernel
theorem dX12_row_37 : decode cX12_row 37 = .ok (.iaload, 1) := by decide +kernel
theorem dX12_row_38 : decode cX12_row 38 = .ok (.bipush 6, 2) := by decide +kernel
theorem dX12_row_40 : decode cX12_row 40 = .ok (.if_icmp .eq 6, 3) := by decide +kernel
theorem dX12_row_43 : decode cX12_row 43 = .ok (.bipush (-3), 2) := by decide +kernel
theorem dX12_row_45 : decode cX12_row 45 = .ok (.ireturn, 1) := by decide +kernel
theorem dX12_row_46 : decode cX12_row 46 = .ok (.aload_n 0, 1) := by decide +kernel
theorem dX12_row_47 : decode cX12_row 47 = .ok (.getfield 27, 3) := by decide +kernel
theorem dX12_row_50 : decode cX12_row 50 = .ok (.iconst 4, 1) := by decide +kernel
theorem dX12_row_51 : decode cX12_row 51 = .ok (.iload_n 1, 1) := by decide +kernel
theorem dX12_row_52 : decode cX12_row 52 = .ok (.imul, 1) := by decide +kernel
theorem dX12_row_53 : decode cX12_row 53 = .ok (.iload_n 2, 1) := by decide +kernel
theorem dX12_row_54 : decode cX12_row 54 = .ok (.iadd, 1) := by decide +kernel
theorem dX12_row_55 : decode cX12_row 55 = .ok (.iaload, 1) := by decide +kernel
theorem dX12_row_56 : decode cX12_row 56 = .ok (.istore 4, 2) := by decide +kernel
theorem dX12_row_58 : decode cX12_row 58 = .ok (.aload_n 0, 1) := by decide +kernel
theorem dX12_row_59 : decode cX12_row 59 = .ok (.getfield 27, 3) := by decide +kernel
theorem dX12_row_62 : decode cX12_row 62 = .ok (.iconst 4, 1) := by decide +kernel
theorem dX12_row_63 : decode cX12_row 63 = .ok (.iload_n 1, 1) := by decide +kernel
theorem dX12_row_64 : decode cX12_row 64 = .ok (.imul, 1) := by decide +kernel
theorem dX12_row_65 : decode cX12_row 65 = .ok (.iload_n 2, 1) := by decide +kernel
theorem dX12_row_66 : decode cX12_row 66 = .ok (.iadd, 1) := by decide +kernel
theorem dX12_row_67 : decode cX12_row 67 = .ok (.iload_n 3, 1) := by decide +kernel
theorem dX12_row_68 : decode cX12_row 68 = .ok (.iastore, 1) := by decide +kernel
theorem dX12_row_69 : decode cX12_row 69 = .ok (.iload 4, 2) := by decide +kernel
theorem dX12_row_71 : decode cX12_row 71 = .ok (.ireturn, 1) := by decide +kernel
theorem dX12_feed_0 : decode cX12_feed 0 = .ok (.iload_n 1, 1) := by decide +kernel
theorem dX12_feed_1 : decode cX12_feed 1 = .ok (.iconst 0, 1) := by decide +kernel
theorem dX12_feed_2 : decode cX12_feed 2 = .ok (.bipush 127, 2) := by decide +kernel
theorem dX12_feed_4 : decode cX12_feed 4 = .ok (.invokestatic 108, 3) := by decide +kernel
theorem dX12_feed_7 : decode cX12_feed 7 = .ok (.ifCond .ne 6, 3) := by decide +kernel
theorem dX12_feed_10 : decode cX12_feed 10 = .ok (.bipush (-2), 2) := by decide +kernel
theorem dX12_feed_12 : decode cX12_feed 12 = .ok (.ireturn, 1) := by decide +kernel
theorem dX12_feed_13 : decode cX12_feed 13 = .ok (.aload_n 0, 1) := by decide +kernel
theorem dX12_feed_14 : decode cX12_feed 14 = .ok (.getfield 130, 3) := by decide +kernel
theorem dX12_feed_17 : decode cX12_feed 17 = .ok (.bipush 100, 2) := by decide +kernel
theorem dX12_feed_19 : decode cX12_feed 19 = .ok (.if_icmp .ne 6, 3) := by decide +kernel
theorem dX12_feed_22 : decode cX12_feed 22 = .ok (.bipush (-4), 2) := by decide +kernel
theorem dX12_feed_24 : decode cX12_feed 24 = .ok (.ireturn, 1) := by decide +kernel
theorem dX12_feed_25 : decode cX12_feed 25 = .ok (.aload_n 0, 1) := by decide +kernel
theorem dX12_feed_26 : decode cX12_feed 26 = .ok (.getfield 30, 3) := by decide +kernel
theorem dX12_feed_29 : decode cX12_feed 29 = .ok (.aload_n 0, 1) := by decide +kernel
theorem dX12_feed_30 : decode cX12_feed 30 = .ok (.dup, 1) := by decide +kernel
theorem dX12_feed_31 : decode cX12_feed 31 = .ok (.getfield 130, 3) := by decide +kernel
theorem dX12_feed_34 : decode cX12_feed 34 = .ok (.dup_x1, 1) := by decide +kernel
theorem dX12_feed_35 : decode cX12_feed 35 = .ok (.iconst 1, 1) := by decide +kernel
theorem dX12_feed_36 : decode cX12_feed 36 = .ok (.iadd, 1) := by decide +kernel
theorem dX12_feed_37 : decode cX12_feed 37 = .ok (.putfield 130, 3) := by decide +kernel
theorem dX12_feed_40 : decode cX12_feed 40 = .ok (.iload_n 1, 1) := by decide +kernel
theorem dX12_feed_41 : decode cX12_feed 41 = .ok (.iastore, 1) := by decide +kernel
theorem dX12_feed_42 : decode cX12_feed 42 = .ok (.aload_n 0, 1) := by decide +kernel
theorem dX12_feed_43 : decode cX12_feed 43 = .ok (.getfield 130, 3) := by decide +kernel
theorem dX12_feed_46 : decode cX12_feed 46 = .ok (.ireturn, 1) := by decide +kernel
theorem dX12_is_0 : decode cX12_is 0 = .ok (.aload_n 0, 1) := by decide +kernel
theorem dX12_is_1 : decode cX12_is 1 = .ok (.getfield 133, 3) := by decide +kernel
theorem dX12_is_4 : decode cX12_is 4 = .ok (.aload_n 0, 1) := by decide +kernel
theorem dX12_is_5 : decode cX12_is 5 = .ok (.getfield 130, 3) := by decide +kernel
theorem dX12_is_8 : decode cX12_is 8 = .ok (.if_icmp .eq 16, 3) := by decide +kernel
theorem dX12_is_11 : decode cX12_is 11 = .ok (.aload_n 0, 1) := by decide +kernel
theorem dX12_is_12 : decode cX12_is 12 = .ok (.getfield 30, 3) := by decide +kernel
theorem dX12_is_15 : decode cX12_is 15 = .ok (.aload_n 0, 1) := by decide +kernel
theorem dX12_is_16 : decode cX12_is 16 = .ok (.getfield 133, 3) := by decide +kernel
theorem dX12_is_19 : decode cX12_is 19 = .ok (.iaload, 1) := by decide +kernel
theorem dX12_is_20 : decode cX12_is 20 = .ok (.iload_n 1, 1) := by decide +kernel
theorem dX12_is_21 : decode cX12_is 21 = .ok (.if_icmp .eq 5, 3) := by decide +kernel
theorem dX12_is_24 : decode cX12_is 24 = .ok (.iconst 0, 1) := by decide +kernel
theorem dX12_is_25 : decode cX12_is 25 = .ok (.ireturn, 1) := by decide +kernel
theorem dX12_is_26 : decode cX12_is 26 = .ok (.aload_n 0, 1) := by decide +kernel
theorem dX12_is_27 : decode cX12_is 27 = .ok (.dup, 1) := by decide +kernel
theorem dX12_is_28 : decode cX12_is 28 = .ok (.getfield 133, 3) := by decide +kernel
theorem dX12_is_31 : decode cX12_is 31 = .ok (.iconst 1, 1) := by decide +kernel
theorem dX12_is_32 : decode cX12_is 32 = .ok (.iadd, 1) := by decide +kernel
theorem dX12_is_33 : decode cX12_is 33 = .ok (.putfield 133, 3) := by decide +kernel
theorem dX12_is_36 : decode cX12_is 36 = .ok (.iconst 1, 1) := by decide +kernel
theorem dX12_is_37 : decode cX12_is 37 = .ok (.ireturn, 1) := by decide +kernel
theorem dX12_isDigit_0 : decode cX12_isDigit 0 = .ok (.aload_n 0, 1) := by decide +kernel
theorem dX12_isDigit_1 : decode cX12_isDigit 1 = .ok (.getfield 133, 3) := by decide +kernel
theorem dX12_isDigit_4 : decode cX12_isDigit 4 = .ok (.aload_n 0, 1) := by decide +kernel
theorem dX12_isDigit_5 : decode cX12_isDigit 5 = .ok (.getfield 130, 3) := by decide +kernel
theorem dX12_isDigit_8 : decode cX12_isDigit 8 = .ok (.if_icmp .ge 35, 3) := by decide +kernel
theorem dX12_isDigit_11 : decode cX12_isDigit 11 = .ok (.aload_n 0, 1) := by decide +kernel
theorem dX12_isDigit_12 : decode cX12_isDigit 12 = .ok (.getfield 30, 3) := by decide +kernel
theorem dX12_isDigit_15 : decode cX12_isDigit 15 = .ok (.aload_n 0, 1) := by decide +kernel
theorem dX12_isDigit_16 : decode cX12_isDigit 16 = .ok (.getfield 133, 3) := by decide +kernel
theorem dX12_isDigit_19 : decode cX12_isDigit 19 = .ok (.iaload, 1) := by decide +kernel
theorem dX12_isDigit_20 : decode cX12_isDigit 20 = .ok (.bipush 48, 2) := by decide +kernel
theorem dX12_isDigit_22 : decode cX12_isDigit 22 = .ok (.if_icmp .lt 21, 3) := by decide +kernel
theorem dX12_isDigit_25 : decode cX12_isDigit 25 = .ok (.aload_n 0, 1) := by decide +kernel
theorem dX12_isDigit_26 : decode cX12_isDigit 26 = .ok (.getfield 30, 3) := by decide +kernel
theorem dX12_isDigit_29 : decode cX12_isDigit 29 = .ok (.aload_n 0, 1) := by decide +kernel
theorem dX12_isDigit_30 : decode cX12_isDigit 30 = .ok (.getfield 133, 3) := by decide +kernel
theorem dX12_isDigit_33 : decode cX12_isDigit 33 = .ok (.iaload, 1) := by decide +kernel
theorem dX12_isDigit_34 : decode cX12_isDigit 34 = .ok (.bipush 57, 2) := by decide +kernel
theorem dX12_isDigit_36 : decode cX12_isDigit 36 = .ok (.if_icmp .gt 7, 3) := by decide +kernel
theorem dX12_isDigit_39 : decode cX12_isDigit 39 = .ok (.iconst 1, 1) := by decide +kernel
theorem dX12_isDigit_40 : decode cX12_isDigit 40 = .ok (.goto 4, 3) := by decide +kernel
theorem dX12_isDigit_43 : decode cX12_isDigit 43 = .ok (.iconst 0, 1) := by decide +kernel
theorem dX12_isDigit_44 : decode cX12_isDigit 44 = .ok (.ireturn, 1) := by decide +kernel
theorem dX12_isNumber_0 : decode cX12_isNumber 0 = .ok (.aload_n 0, 1) := by decide +kernel
theorem dX12_isNumber_1 : decode cX12_isNumber 1 = .ok (.iconst 0, 1) := by decide +kernel
theorem dX12_isNumber_2 : decode cX12_isNumber 2 = .ok (.putfield 136, 3) := by decide +kernel
theorem dX12_isNumber_5 : decode cX12_isNumber 5 = .ok (.aload_n 0, 1) := by decide +kernel
theorem dX12_isNumber_6 : decode cX12_isNumber 6 = .ok (.iconst 0, 1) := by decide +kernel
theorem dX12_isNumber_7 : decode cX12_isNumber 7 = .ok (.putfield 139, 3) := by decide +kernel
theorem dX12_isNumber_10 : decode cX12_isNumber 10 = .ok (.aload_n 0, 1) := by decide +kernel
theorem dX12_isNumber_11 : decode cX12_isNumber 11 = .ok (.getfield 139, 3) := by decide +kernel
theorem dX12_isNumber_14 : decode cX12_isNumber 14 = .ok (.iconst 2, 1) := by decide +kernel
theorem dX12_isNumber_15 : decode cX12_isNumber 15 = .ok (.if_icmp .ge 57, 3) := by decide +kernel
theorem dX12_isNumber_18 : decode cX12_isNumber 18 = .ok (.aload_n 0, 1) := by decide +kernel
theorem dX12_isNumber_19 : decode cX12_isNumber 19 = .ok (.invokevirtual 142, 3) := by decide +kernel
theorem dX12_isNumber_22 : decode cX12_isNumber 22 = .ok (.ifCond .eq 50, 3) := by decide +kernel
theorem dX12_isNumber_25 : decode cX12_isNumber 25 = .ok (.aload_n 0, 1) := by decide +kernel
theorem dX12_isNumber_26 : decode cX12_isNumber 26 = .ok (.bipush 10, 2) := by decide +kernel
theorem dX12_isNumber_28 : decode cX12_isNumber 28 = .ok (.aload_n 0, 1) := by decide +kernel
theorem dX12_isNumber_29 : decode cX12_isNumber 29 = .ok (.getfield 136, 3) := by decide +kernel
theorem dX12_isNumber_32 : decode cX12_isNumber 32 = .ok (.imul, 1) := by decide +kernel
theorem dX12_isNumber_33 : decode cX12_isNumber 33 = .ok (.aload_n 0, 1) := by decide +kernel
theorem dX12_isNumber_34 : decode cX12_isNumber 34 = .ok (.getfield 30, 3) := by decide +kernel
theorem dX12_isNumber_37 : decode cX12_isNumber 37 = .ok (.aload_n 0, 1) := by decide +kernel
theorem dX12_isNumber_38 : decode cX12_isNumber 38 = .ok (.getfield 133, 3) := by decide +kernel
theorem dX12_isNumber_41 : decode cX12_isNumber 41 = .ok (.iaload, 1) := by decide +kernel
theorem dX12_isNumber_42 : decode cX12_isNumber 42 = .ok (.iadd, 1) := by decide +kernel
theorem dX12_isNumber_43 : decode cX12_isNumber 43 = .ok (.bipush 48, 2) := by decide +kernel
theorem dX12_isNumber_45 : decode cX12_isNumber 45 = .ok (.isub, 1) := by decide +kernel
theorem dX12_isNumber_46 : decode cX12_isNumber 46 = .ok (.putfield 136, 3) := by decide +kernel
theorem dX12_isNumber_49 : decode cX12_isNumber 49 = .ok (.aload_n 0, 1) := by decide +kernel
theorem dX12_isNumber_50 : decode cX12_isNumber 50 = .ok (.dup, 1) := by decide +kernel
theorem dX12_isNumber_51 : decode cX12_isNumber 51 = .ok (.getfield 133, 3) := by decide +kernel
theorem dX12_isNumber_54 : decode cX12_isNumber 54 = .ok (.iconst 1, 1) := by decide +kernel
theorem dX12_isNumber_55 : decode cX12_isNumber 55 = .ok (.iadd, 1) := by decide +kernel
theorem dX12_isNumber_56 : decode cX12_isNumber 56 = .ok (.putfield 133, 3) := by decide +kernel
theorem dX12_isNumber_59 : decode cX12_isNumber 59 = .ok (.aload_n 0, 1) := by decide +kernel
theorem dX12_isNumber_60 : decode cX12_isNumber 60 = .ok (.dup, 1) := by decide +kernel
theorem dX12_isNumber_61 : decode cX12_isNumber 61 = .ok (.getfield 139, 3) := by decide +kernel
theorem dX12_isNumber_64 : decode cX12_isNumber 64 = .ok (.iconst 1, 1) := by decide +kernel
theorem dX12_isNumber_65 : decode cX12_isNumber 65 = .ok (.iadd, 1) := by decide +kernel
theorem dX12_isNumber_66 : decode cX12_isNumber 66 = .ok (.putfield 139, 3) := by decide +kernel
theorem dX12_isNumber_69 : decode cX12_isNumber 69 = .ok (.goto (-59), 3) := by decide +kernel
theorem dX12_isNumber_72 : decode cX12_isNumber 72 = .ok (.aload_n 0, 1) := by decide +kernel
theorem dX12_isNumber_73 : decode cX12_isNumber 73 = .ok (.getfield 139, 3) := by decide +kernel
theorem dX12_isNumber_76 : decode cX12_isNumber 76 = .ok (.ifCond .le 7, 3) := by decide +kernel
theorem dX12_isNumber_79 : decode cX12_isNumber 79 = .ok (.iconst 1, 1) := by decide +kernel
theorem dX12_isNumber_80 : decode cX12_isNumber 80 = .ok (.goto 4, 3) := by decide +kernel
theorem dX12_isNumber_83 : decode cX12_isNumber 83 = .ok (.iconst 0, 1) := by decide +kernel
theorem dX12_isNumber_84 : decode cX12_isNumber 84 = .ok (.ireturn, 1) := by decide +kernel
theorem dX12_isAll_0 : decode cX12_isAll 0 = .ok (.iconst 0, 1) := by decide +kernel
theorem dX12_isAll_1 : decode cX12_isAll 1 = .ok (.istore_n 2, 1) := by decide +kernel
theorem dX12_isAll_2 : decode cX12_isAll 2 = .ok (.iload_n 2, 1) := by decide +kernel
theorem dX12_isAll_3 : decode cX12_isAll 3 = .ok (.aload_n 1, 1) := by decide +kernel
theorem dX12_isAll_4 : decode cX12_isAll 4 = .ok (.invokevirtual 146, 3) := by decide +kernel
theorem dX12_isAll_7 : decode cX12_isAll 7 = .ok (.if_icmp .ge 23, 3) := by decide +kernel
theorem dX12_isAll_10 : decode cX12_isAll 10 = .ok (.aload_n 0, 1) := by decide +kernel
theorem dX12_isAll_11 : decode cX12_isAll 11 = .ok (.aload_n 1, 1) := by decide +kernel
theorem dX12_isAll_12 : decode cX12_isAll 12 = .ok (.iload_n 2, 1) := by decide +kernel
theorem dX12_isAll_13 : decode cX12_isAll 13 = .ok (.invokevirtual 151, 3) := by decide +kernel
theorem dX12_isAll_16 : decode cX12_isAll 16 = .ok (.invokevirtual 155, 3) := by decide +kernel
theorem dX12_isAll_19 : decode cX12_isAll 19 = .ok (.ifCond .ne 5, 3) := by decide +kernel
theorem dX12_isAll_22 : decode cX12_isAll 22 = .ok (.iconst 0, 1) := by decide +kernel
theorem dX12_isAll_23 : decode cX12_isAll 23 = .ok (.ireturn, 1) := by decide +kernel
theorem dX12_isAll_24 : decode cX12_isAll 24 = .ok (.iinc 2 1, 3) := by decide +kernel
theorem dX12_isAll_27 : decode cX12_isAll 27 = .ok (.goto (-25), 3) := by decide +kernel
theorem dX12_isAll_30 : decode cX12_isAll 30 = .ok (.iconst 1, 1) := by decide +kernel
theorem dX12_isAll_31 : decode cX12_isAll 31 = .ok (.ireturn, 1) := by decide +kernel
theorem dX12_codes_0 : decode cX12_codes 0 = .ok (.aload_n 0, 1) := by decide +kernel
theorem dX12_codes_1 : decode cX12_codes 1 = .ok (.getfield 48, 3) := by decide +kernel
theorem dX12_codes_4 : decode cX12_codes 4 = .ok (.aload_n 0, 1) := by decide +kernel
theorem dX12_codes_5 : decode cX12_codes 5 = .ok (.dup, 1) := by decide +kernel
theorem dX12_codes_6 : decode cX12_codes 6 = .ok (.getfield 158, 3) := by decide +kernel
theorem dX12_codes_9 : decode cX12_codes 9 = .ok (.dup_x1, 1) := by decide +kernel
theorem dX12_codes_10 : decode cX12_codes 10 = .ok (.iconst 1, 1) := by decide +kernel
theorem dX12_codes_11 : decode cX12_codes 11 = .ok (.iadd, 1) := by decide +kernel
theorem dX12_codes_12 : decode cX12_codes 12 = .ok (.putfield 158, 3) := by decide +kernel
theorem dX12_codes_15 : decode cX12_codes 15 = .ok (.iload_n 1, 1) := by decide +kernel
theorem dX12_codes_16 : decode cX12_codes 16 = .ok (.iastore, 1) := by decide +kernel
theorem dX12_codes_17 : decode cX12_codes 17 = .ok (.iconst 1, 1) := by decide +kernel
theorem dX12_codes_18 : decode cX12_codes 18 = .ok (.ireturn, 1) := by decide +kernel
theorem dX12_isTest_0 : decode cX12_isTest 0 = .ok (.aload_n 0, 1) := by decide +kernel
theorem dX12_isTest_1 : decode cX12_isTest 1 = .ok (.getfield 133, 3) := by decide +kernel
theorem dX12_isTest_4 : decode cX12_isTest 4 = .ok (.aload_n 0, 1) := by decide +kernel
theorem dX12_isTest_5 : decode cX12_isTest 5 = .ok (.getfield 130, 3) := by decide +kernel
theorem dX12_isTest_8 : decode cX12_isTest 8 = .ok (.if_icmp .ge 32, 3) := by decide +kernel
theorem dX12_isTest_11 : decode cX12_isTest 11 = .ok (.aload_n 0, 1) := by decide +kernel
theorem dX12_isTest_12 : decode cX12_isTest 12 = .ok (.getfield 30, 3) := by decide +kernel
theorem dX12_isTest_15 : decode cX12_isTest 15 = .ok (.aload_n 0, 1) := by decide +kernel
theorem dX12_isTest_16 : decode cX12_isTest 16 = .ok (.getfield 133, 3) := by decide +kernel
theorem dX12_isTest_19 : decode cX12_isTest 19 = .ok (.iaload, 1) := by decide +kernel
theorem dX12_isTest_20 : decode cX12_isTest 20 = .ok (.ifCond .le 20, 3) := by decide +kernel
theorem dX12_isTest_23 : decode cX12_isTest 23 = .ok (.ldc 161, 2) := by decide +kernel
theorem dX12_isTest_25 : decode cX12_isTest 25 = .ok (.aload_n 0, 1) := by decide +kernel
theorem dX12_isTest_26 : decode cX12_isTest 26 = .ok (.getfield 30, 3) := by decide +kernel
theorem dX12_isTest_29 : decode cX12_isTest 29 = .ok (.aload_n 0, 1) := by decide +kernel
theorem dX12_isTest_30 : decode cX12_isTest 30 = .ok (.getfield 133, 3) := by decide +kernel
theorem dX12_isTest_33 : decode cX12_isTest 33 = .ok (.iaload, 1) := by decide +kernel
theorem dX12_isTest_34 : decode cX12_isTest 34 = .ok (.invokevirtual 163, 3) := by decide +kernel
theorem dX12_isTest_37 : decode cX12_isTest 37 = .ok (.goto 4, 3) := by decide +kernel
theorem dX12_isTest_40 : decode cX12_isTest 40 = .ok (.iconst (-1), 1) := by decide +kernel
theorem dX12_isTest_41 : decode cX12_isTest 41 = .ok (.istore_n 1, 1) := by decide +kernel
theorem dX12_isTest_42 : decode cX12_isTest 42 = .ok (.iload_n 1, 1) := by decide +kernel
theorem dX12_isTest_43 : decode cX12_isTest 43 = .ok (.ifCond .ge 5, 3) := by decide +kernel
theorem dX12_isTest_46 : decode cX12_isTest 46 = .ok (.iconst 0, 1) := by decide +kernel
theorem dX12_isTest_47 : decode cX12_isTest 47 = .ok (.ireturn, 1) := by decide +kernel
theorem dX12_isTest_48 : decode cX12_isTest 48 = .ok (.aload_n 0, 1) := by decide +kernel
theorem dX12_isTest_49 : decode cX12_isTest 49 = .ok (.dup, 1) := by decide +kernel
theorem dX12_isTest_50 : decode cX12_isTest 50 = .ok (.getfield 133, 3) := by decide +kernel
theorem dX12_isTest_53 : decode cX12_isTest 53 = .ok (.iconst 1, 1) := by decide +kernel
theorem dX12_isTest_54 : decode cX12_isTest 54 = .ok (.iadd, 1) := by decide +kernel
theorem dX12_isTest_55 : decode cX12_isTest 55 = .ok (.putfield 133, 3) := by decide +kernel
theorem dX12_isTest_58 : decode cX12_isTest 58 = .ok (.aload_n 0, 1) := by decide +kernel
theorem dX12_isTest_59 : decode cX12_isTest 59 = .ok (.getfield 133, 3) := by decide +kernel
theorem dX12_isTest_62 : decode cX12_isTest 62 = .ok (.aload_n 0, 1) := by decide +kernel
theorem dX12_isTest_63 : decode cX12_isTest 63 = .ok (.getfield 130, 3) := by decide +kernel
theorem dX12_isTest_66 : decode cX12_isTest 66 = .ok (.if_icmp .ge 32, 3) := by decide +kernel
theorem dX12_isTest_69 : decode cX12_isTest 69 = .ok (.aload_n 0, 1) := by decide +kernel
theorem dX12_isTest_70 : decode cX12_isTest 70 = .ok (.getfield 30, 3) := by decide +kernel
theorem dX12_isTest_73 : decode cX12_isTest 73 = .ok (.aload_n 0, 1) := by decide +kernel
theorem dX12_isTest_74 : decode cX12_isTest 74 = .ok (.getfield 133, 3) := by decide +kernel
theorem dX12_isTest_77 : decode cX12_isTest 77 = .ok (.iaload, 1) := by decide +kernel
theorem dX12_isTest_78 : decode cX12_isTest 78 = .ok (.ifCond .le 20, 3) := by decide +kernel
theorem dX12_isTest_81 : decode cX12_isTest 81 = .ok (.ldc 166, 2) := by decide +kernel
theorem dX12_isTest_83 : decode cX12_isTest 83 = .ok (.aload_n 0, 1) := by decide +kernel
theorem dX12_isTest_84 : decode cX12_isTest 84 = .ok (.getfield 30, 3) := by decide +kernel
theorem dX12_isTest_87 : decode cX12_isTest 87 = .ok (.aload_n 0, 1) := by decide +kernel
theorem dX12_isTest_88 : decode cX12_isTest 88 = .ok (.getfield 133, 3) := by decide +kernel
theorem dX12_isTest_91 : decode cX12_isTest 91 = .ok (.iaload, 1) := by decide +kernel
theorem dX12_isTest_92 : decode cX12_isTest 92 = .ok (.invokevirtual 163, 3) := by decide +kernel
theorem dX12_isTest_95 : decode cX12_isTest 95 = .ok (.goto 4, 3) := by decide +kernel
theorem dX12_isTest_98 : decode cX12_isTest 98 = .ok (.iconst (-1), 1) := by decide +kernel
theorem dX12_isTest_99 : decode cX12_isTest 99 = .ok (.istore_n 2, 1) := by decide +kernel
theorem dX12_isTest_100 : decode cX12_isTest 100 = .ok (.iload_n 2, 1) := by decide +kernel
theorem dX12_isTest_101 : decode cX12_isTest 101 = .ok (.ifCond .ge 5, 3) := by decide +kernel
theorem dX12_isTest_104 : decode cX12_isTest 104 = .ok (.iconst 0, 1) := by decide +kernel
theorem dX12_isTest_105 : decode cX12_isTest 105 = .ok (.ireturn, 1) := by decide +kernel
theorem dX12_isTest_106 : decode cX12_isTest 106 = .ok (.aload_n 0, 1) := by decide +kernel
theorem dX12_isTest_107 : decode cX12_isTest 107 = .ok (.dup, 1) := by decide +kernel
theorem dX12_isTest_108 : decode cX12_isTest 108 = .ok (.getfield 133, 3) := by decide +kernel
theorem dX12_isTest_111 : decode cX12_isTest 111 = .ok (.iconst 1, 1) := by decide +kernel
theorem dX12_isTest_112 : decode cX12_isTest 112 = .ok (.iadd, 1) := by decide +kernel
theorem dX12_isTest_113 : decode cX12_isTest 113 = .ok (.putfield 133, 3) := by decide +kernel
theorem dX12_isTest_116 : decode cX12_isTest 116 = .ok (.aload_n 0, 1) := by decide +kernel
theorem dX12_isTest_117 : decode cX12_isTest 117 = .ok (.invokevirtual 168, 3) := by decide +kernel
theorem dX12_isTest_120 : decode cX12_isTest 120 = .ok (.ifCond .eq 31, 3) := by decide +kernel
theorem dX12_isTest_123 : decode cX12_isTest 123 = .ok (.aload_n 0, 1) := by decide +kernel
theorem dX12_isTest_124 : decode cX12_isTest 124 = .ok (.iconst 3, 1) := by decide +kernel
theorem dX12_isTest_125 : decode cX12_isTest 125 = .ok (.sipush 300, 3) := by decide +kernel
theorem dX12_isTest_128 : decode cX12_isTest 128 = .ok (.iload_n 1, 1) := by decide +kernel
theorem dX12_isTest_129 : decode cX12_isTest 129 = .ok (.imul, 1) := by decide +kernel
theorem dX12_isTest_130 : decode cX12_isTest 130 = .ok (.iadd, 1) := by decide +kernel
theorem dX12_isTest_131 : decode cX12_isTest 131 = .ok (.bipush 100, 2) := by decide +kernel
theorem dX12_isTest_133 : decode cX12_isTest 133 = .ok (.iload_n 2, 1) := by decide +kernel
theorem dX12_isTest_134 : decode cX12_isTest 134 = .ok (.imul, 1) := by decide +kernel
theorem dX12_isTest_135 : decode cX12_isTest 135 = .ok (.iadd, 1) := by decide +kernel
theorem dX12_isTest_136 : decode cX12_isTest 136 = .ok (.aload_n 0, 1) := by decide +kernel
theorem dX12_isTest_137 : decode cX12_isTest 137 = .ok (.getfield 136, 3) := by decide +kernel
theorem dX12_isTest_140 : decode cX12_isTest 140 = .ok (.iadd, 1) := by decide +kernel
theorem dX12_isTest_141 : decode cX12_isTest 141 = .ok (.invokevirtual 171, 3) := by decide +kernel
theorem dX12_isTest_144 : decode cX12_isTest 144 = .ok (.ifCond .eq 7, 3) := by decide +kernel
theorem dX12_isTest_147 : decode cX12_isTest 147 = .ok (.iconst 1, 1) := by decide +kernel
theorem dX12_isTest_148 : decode cX12_isTest 148 = .ok (.goto 4, 3) := by decide +kernel
theorem dX12_isTest_151 : decode cX12_isTest 151 = .ok (.iconst 0, 1) := by decide +kernel
theorem dX12_isTest_152 : decode cX12_isTest 152 = .ok (.ireturn, 1) := by decide +kernel
theorem dX12_isOpened_0 : decode cX12_isOpened 0 = .ok (.aload_n 0, 1) := by decide +kernel
theorem dX12_isOpened_1 : decode cX12_isOpened 1 = .ok (.getfield 174, 3) := by decide +kernel
theorem dX12_isOpened_4 : decode cX12_isOpened 4 = .ok (.iconst 4, 1) := by decide +kernel
theorem dX12_isOpened_5 : decode cX12_isOpened 5 = .ok (.if_icmp .eq 11, 3) := by decide +kernel
theorem dX12_isOpened_8 : decode cX12_isOpened 8 = .ok (.aload_n 0, 1) := by decide +kernel
theorem dX12_isOpened_9 : decode cX12_isOpened 9 = .ok (.iload_n 1, 1) := by decide +kernel
theorem dX12_isOpened_10 : decode cX12_isOpened 10 = .ok (.invokevirtual 155, 3) := by decide +kernel
theorem dX12_isOpened_13 : decode cX12_isOpened 13 = .ok (.ifCond .ne 5, 3) := by decide +kernel
theorem dX12_isOpened_16 : decode cX12_isOpened 16 = .ok (.iconst 0, 1) := by decide +kernel
theorem dX12_isOpened_17 : decode cX12_isOpened 17 = .ok (.ireturn, 1) := by decide +kernel
theorem dX12_isOpened_18 : decode cX12_isOpened 18 = .ok (.aload_n 0, 1) := by decide +kernel
theorem dX12_isOpened_19 : decode cX12_isOpened 19 = .ok (.dup, 1) := by decide +kernel
theorem dX12_isOpened_20 : decode cX12_isOpened 20 = .ok (.getfield 174, 3) := by decide +kernel
theorem dX12_isOpened_23 : decode cX12_isOpened 23 = .ok (.iconst 1, 1) := by decide +kernel
theorem dX12_isOpened_24 : decode cX12_isOpened 24 = .ok (.iadd, 1) := by decide +kernel
theorem dX12_isOpened_25 : decode cX12_isOpened 25 = .ok (.putfield 174, 3) := by decide +kernel
theorem dX12_isOpened_28 : decode cX12_isOpened 28 = .ok (.iconst 1, 1) := by decide +kernel
theorem dX12_isOpened_29 : decode cX12_isOpened 29 = .ok (.ireturn, 1) := by decide +kernel
theorem dX12_isF_0 : decode cX12_isF 0 = .ok (.aload_n 0, 1) := by decide +kernel
theorem dX12_isF_1 : decode cX12_isF 1 = .ok (.bipush 33, 2) := by decide +kernel
theorem dX12_isF_3 : decode cX12_isF 3 = .ok (.invokevirtual 177, 3) := by decide +kernel
theorem dX12_isF_6 : decode cX12_isF 6 = .ok (.ifCond .eq 27, 3) := by decide +kernel
theorem dX12_isF_9 : decode cX12_isF 9 = .ok (.aload_n 0, 1) := by decide +kernel
theorem dX12_isF_10 : decode cX12_isF 10 = .ok (.invokevirtual 180, 3) := by decide +kernel
theorem dX12_isF_13 : decode cX12_isF 13 = .ok (.ifCond .eq 15, 3) := by decide +kernel
theorem dX12_isF_16 : decode cX12_isF 16 = .ok (.aload_n 0, 1) := by decide +kernel
theorem dX12_isF_17 : decode cX12_isF 17 = .ok (.iconst 0, 1) := by decide +kernel
theorem dX12_isF_18 : decode cX12_isF 18 = .ok (.invokevirtual 171, 3) := by decide +kernel
theorem dX12_isF_21 : decode cX12_isF 21 = .ok (.ifCond .eq 7, 3) := by decide +kernel
theorem dX12_isF_24 : decode cX12_isF 24 = .ok (.iconst 1, 1) := by decide +kernel
theorem dX12_isF_25 : decode cX12_isF 25 = .ok (.goto 4, 3) := by decide +kernel
theorem dX12_isF_28 : decode cX12_isF 28 = .ok (.iconst 0, 1) := by decide +kernel
theorem dX12_isF_29 : decode cX12_isF 29 = .ok (.istore_n 1, 1) := by decide +kernel
theorem dX12_isF_30 : decode cX12_isF 30 = .ok (.goto 42, 3) := by decide +kernel
theorem dX12_isF_33 : decode cX12_isF 33 = .ok (.aload_n 0, 1) := by decide +kernel
theorem dX12_isF_34 : decode cX12_isF 34 = .ok (.bipush 40, 2) := by decide +kernel
theorem dX12_isF_36 : decode cX12_isF 36 = .ok (.invokevirtual 177, 3) := by decide +kernel
theorem dX12_isF_39 : decode cX12_isF 39 = .ok (.ifCond .eq 28, 3) := by decide +kernel
theorem dX12_isF_42 : decode cX12_isF 42 = .ok (.aload_n 0, 1) := by decide +kernel
theorem dX12_isF_43 : decode cX12_isF 43 = .ok (.invokevirtual 183, 3) := by decide +kernel
theorem dX12_isF_46 : decode cX12_isF 46 = .ok (.ifCond .eq 16, 3) := by decide +kernel
theorem dX12_isF_49 : decode cX12_isF 49 = .ok (.aload_n 0, 1) := by decide +kernel
theorem dX12_isF_50 : decode cX12_isF 50 = .ok (.bipush 41, 2) := by decide +kernel
theorem dX12_isF_52 : decode cX12_isF 52 = .ok (.invokevirtual 155, 3) := by decide +kernel
theorem dX12_isF_55 : decode cX12_isF 55 = .ok (.ifCond .eq 7, 3) := by decide +kernel
theorem dX12_isF_58 : decode cX12_isF 58 = .ok (.iconst 1, 1) := by decide +kernel
theorem dX12_isF_59 : decode cX12_isF 59 = .ok (.goto 4, 3) := by decide +kernel
theorem dX12_isF_62 : decode cX12_isF 62 = .ok (.iconst 0, 1) := by decide +kernel
theorem dX12_isF_63 : decode cX12_isF 63 = .ok (.istore_n 1, 1) := by decide +kernel
theorem dX12_isF_64 : decode cX12_isF 64 = .ok (.goto 8, 3) := by decide +kernel
theorem dX12_isF_67 : decode cX12_isF 67 = .ok (.aload_n 0, 1) := by decide +kernel
theorem dX12_isF_68 : decode cX12_isF 68 = .ok (.invokevirtual 186, 3) := by decide +kernel
theorem dX12_isF_71 : decode cX12_isF 71 = .ok (.ireturn, 1) := by decide +kernel
theorem dX12_isF_72 : decode cX12_isF 72 = .ok (.aload_n 0, 1) := by decide +kernel
theorem dX12_isF_73 : decode cX12_isF 73 = .ok (.dup, 1) := by decide +kernel
theorem dX12_isF_74 : decode cX12_isF 74 = .ok (.getfield 174, 3) := by decide +kernel
theorem dX12_isF_77 : decode cX12_isF 77 = .ok (.iconst 1, 1) := by decide +kernel
theorem dX12_isF_78 : decode cX12_isF 78 = .ok (.isub, 1) := by decide +kernel
theorem dX12_isF_79 : decode cX12_isF 79 = .ok (.putfield 174, 3) := by decide +kernel
theorem dX12_isF_82 : decode cX12_isF 82 = .ok (.iload_n 1, 1) := by decide +kernel
theorem dX12_isF_83 : decode cX12_isF 83 = .ok (.ireturn, 1) := by decide +kernel
theorem dX12_isT_0 : decode cX12_isT 0 = .ok (.aload_n 0, 1) := by decide +kernel
theorem dX12_isT_1 : decode cX12_isT 1 = .ok (.invokevirtual 180, 3) := by decide +kernel
theorem dX12_isT_4 : decode cX12_isT 4 = .ok (.ifCond .ne 5, 3) := by decide +kernel
theorem dX12_isT_7 : decode cX12_isT 7 = .ok (.iconst 0, 1) := by decide +kernel
theorem dX12_isT_8 : decode cX12_isT 8 = .ok (.ireturn, 1) := by decide +kernel
theorem dX12_isT_9 : decode cX12_isT 9 = .ok (.aload_n 0, 1) := by decide +kernel
theorem dX12_isT_10 : decode cX12_isT 10 = .ok (.bipush 38, 2) := by decide +kernel
theorem dX12_isT_12 : decode cX12_isT 12 = .ok (.invokevirtual 155, 3) := by decide +kernel
theorem dX12_isT_15 : decode cX12_isT 15 = .ok (.ifCond .eq 20, 3) := by decide +kernel
theorem dX12_isT_18 : decode cX12_isT 18 = .ok (.aload_n 0, 1) := by decide +kernel
theorem dX12_isT_19 : decode cX12_isT 19 = .ok (.invokevirtual 180, 3) := by decide +kernel
theorem dX12_isT_22 : decode cX12_isT 22 = .ok (.ifCond .eq 11, 3) := by decide +kernel
theorem dX12_isT_25 : decode cX12_isT 25 = .ok (.aload_n 0, 1) := by decide +kernel
theorem dX12_isT_26 : decode cX12_isT 26 = .ok (.iconst 1, 1) := by decide +kernel
theorem dX12_isT_27 : decode cX12_isT 27 = .ok (.invokevirtual 171, 3) := by decide +kernel
theorem dX12_isT_30 : decode cX12_isT 30 = .ok (.ifCond .ne (-21), 3) := by decide +kernel
theorem dX12_isT_33 : decode cX12_isT 33 = .ok (.iconst 0, 1) := by decide +kernel
theorem dX12_isT_34 : decode cX12_isT 34 = .ok (.ireturn, 1) := by decide +kernel
theorem dX12_isT_35 : decode cX12_isT 35 = .ok (.iconst 1, 1) := by decide +kernel
theorem dX12_isT_36 : decode cX12_isT 36 = .ok (.ireturn, 1) := by decide +kernel
theorem dX12_isE_0 : decode cX12_isE 0 = .ok (.aload_n 0, 1) := by decide +kernel
theorem dX12_isE_1 : decode cX12_isE 1 = .ok (.invokevirtual 189, 3) := by decide +kernel
theorem dX12_isE_4 : decode cX12_isE 4 = .ok (.ifCond .ne 5, 3) := by decide +kernel
theorem dX12_isE_7 : decode cX12_isE 7 = .ok (.iconst 0, 1) := by decide +kernel
theorem dX12_isE_8 : decode cX12_isE 8 = .ok (.ireturn, 1) := by decide +kernel
theorem dX12_isE_9 : decode cX12_isE 9 = .ok (.aload_n 0, 1) := by decide +kernel
theorem dX12_isE_10 : decode cX12_isE 10 = .ok (.bipush 124, 2) := by decide +kernel
theorem dX12_isE_12 : decode cX12_isE 12 = .ok (.invokevirtual 155, 3) := by decide +kernel
theorem dX12_isE_15 : decode cX12_isE 15 = .ok (.ifCond .eq 20, 3) := by decide +kernel
theorem dX12_isE_18 : decode cX12_isE 18 = .ok (.aload_n 0, 1) := by decide +kernel
theorem dX12_isE_19 : decode cX12_isE 19 = .ok (.invokevirtual 189, 3) := by decide +kernel
theorem dX12_isE_22 : decode cX12_isE 22 = .ok (.ifCond .eq 11, 3) := by decide +kernel
theorem dX12_isE_25 : decode cX12_isE 25 = .ok (.aload_n 0, 1) := by decide +kernel
theorem dX12_isE_26 : decode cX12_isE 26 = .ok (.iconst 2, 1) := by decide +kernel
theorem dX12_isE_27 : decode cX12_isE 27 = .ok (.invokevirtual 171, 3) := by decide +kernel
theorem dX12_isE_30 : decode cX12_isE 30 = .ok (.ifCond .ne (-21), 3) := by decide +kernel
theorem dX12_isE_33 : decode cX12_isE 33 = .ok (.iconst 0, 1) := by decide +kernel
theorem dX12_isE_34 : decode cX12_isE 34 = .ok (.ireturn, 1) := by decide +kernel
theorem dX12_isE_35 : decode cX12_isE 35 = .ok (.iconst 1, 1) := by decide +kernel
theorem dX12_isE_36 : decode cX12_isE 36 = .ok (.ireturn, 1) := by decide +kernel
theorem dX12_isClause_0 : decode cX12_isClause 0 = .ok (.iconst (-1), 1) := by decide +kernel
theorem dX12_isClause_1 : decode cX12_isClause 1 = .ok (.istore_n 2, 1) := by decide +kernel
theorem dX12_isClause_2 : decode cX12_isClause 2 = .ok (.aload_n 0, 1) := by decide +kernel
theorem dX12_isClause_3 : decode cX12_isClause 3 = .ok (.getfield 133, 3) := by decide +kernel
theorem dX12_isClause_6 : decode cX12_isClause 6 = .ok (.aload_n 0, 1) := by decide +kernel
theorem dX12_isClause_7 : decode cX12_isClause 7 = .ok (.getfield 130, 3) := by decide +kernel
theorem dX12_isClause_10 : decode cX12_isClause 10 = .ok (.if_icmp .ge 41, 3) := by decide +kernel
theorem dX12_isClause_13 : decode cX12_isClause 13 = .ok (.aload_n 0, 1) := by decide +kernel
theorem dX12_isClause_14 : decode cX12_isClause 14 = .ok (.getfield 30, 3) := by decide +kernel
theorem dX12_isClause_17 : decode cX12_isClause 17 = .ok (.aload_n 0, 1) := by decide +kernel
theorem dX12_isClause_18 : decode cX12_isClause 18 = .ok (.getfield 133, 3) := by decide +kernel
theorem dX12_isClause_21 : decode cX12_isClause 21 = .ok (.iaload, 1) := by decide +kernel
theorem dX12_isClause_22 : decode cX12_isClause 22 = .ok (.bipush 100, 2) := by decide +kernel
theorem dX12_isClause_24 : decode cX12_isClause 24 = .ok (.if_icmp .ne 7, 3) := by decide +kernel
theorem dX12_isClause_27 : decode cX12_isClause 27 = .ok (.iconst 0, 1) := by decide +kernel
theorem dX12_isClause_28 : decode cX12_isClause 28 = .ok (.goto 22, 3) := by decide +kernel
theorem dX12_isClause_31 : decode cX12_isClause 31 = .ok (.aload_n 0, 1) := by decide +kernel
theorem dX12_isClause_32 : decode cX12_isClause 32 = .ok (.getfield 30, 3) := by decide +kernel
theorem dX12_isClause_35 : decode cX12_isClause 35 = .ok (.aload_n 0, 1) := by decide +kernel
theorem dX12_isClause_36 : decode cX12_isClause 36 = .ok (.getfield 133, 3) := by decide +kernel
theorem dX12_isClause_39 : decode cX12_isClause 39 = .ok (.iaload, 1) := by decide +kernel
theorem dX12_isClause_40 : decode cX12_isClause 40 = .ok (.bipush 98, 2) := by decide +kernel
theorem dX12_isClause_42 : decode cX12_isClause 42 = .ok (.if_icmp .ne 7, 3) := by decide +kernel
theorem dX12_isClause_45 : decode cX12_isClause 45 = .ok (.iconst 1, 1) := by decide +kernel
theorem dX12_isClause_46 : decode cX12_isClause 46 = .ok (.goto 4, 3) := by decide +kernel
theorem dX12_isClause_49 : decode cX12_isClause 49 = .ok (.iconst (-1), 1) := by decide +kernel
theorem dX12_isClause_50 : decode cX12_isClause 50 = .ok (.istore_n 2, 1) := by decide +kernel
theorem dX12_isClause_51 : decode cX12_isClause 51 = .ok (.iload_n 2, 1) := by decide +kernel
theorem dX12_isClause_52 : decode cX12_isClause 52 = .ok (.iconst 1, 1) := by decide +kernel
theorem dX12_isClause_53 : decode cX12_isClause 53 = .ok (.if_icmp .ne 34, 3) := by decide +kernel
theorem dX12_isClause_56 : decode cX12_isClause 56 = .ok (.aload_n 0, 1) := by decide +kernel
theorem dX12_isClause_57 : decode cX12_isClause 57 = .ok (.getfield 133, 3) := by decide +kernel
theorem dX12_isClause_60 : decode cX12_isClause 60 = .ok (.iconst 2, 1) := by decide +kernel
theorem dX12_isClause_61 : decode cX12_isClause 61 = .ok (.iadd, 1) := by decide +kernel
theorem dX12_isClause_62 : decode cX12_isClause 62 = .ok (.aload_n 0, 1) := by decide +kernel
theorem dX12_isClause_63 : decode cX12_isClause 63 = .ok (.getfield 130, 3) := by decide +kernel
theorem dX12_isClause_66 : decode cX12_isClause 66 = .ok (.if_icmp .ge 21, 3) := by decide +kernel
theorem dX12_isClause_69 : decode cX12_isClause 69 = .ok (.aload_n 0, 1) := by decide +kernel
theorem dX12_isClause_70 : decode cX12_isClause 70 = .ok (.getfield 30, 3) := by decide +kernel
theorem dX12_isClause_73 : decode cX12_isClause 73 = .ok (.aload_n 0, 1) := by decide +kernel
theorem dX12_isClause_74 : decode cX12_isClause 74 = .ok (.getfield 133, 3) := by decide +kernel
theorem dX12_isClause_77 : decode cX12_isClause 77 = .ok (.iconst 2, 1) := by decide +kernel
theorem dX12_isClause_78 : decode cX12_isClause 78 = .ok (.iadd, 1) := by decide +kernel
theorem dX12_isClause_79 : decode cX12_isClause 79 = .ok (.iaload, 1) := by decide +kernel
theorem dX12_isClause_80 : decode cX12_isClause 80 = .ok (.bipush 108, 2) := by decide +kernel
theorem dX12_isClause_82 : decode cX12_isClause 82 = .ok (.if_icmp .ne 5, 3) := by decide +kernel
theorem dX12_isClause_85 : decode cX12_isClause 85 = .ok (.iconst 2, 1) := by decide +kernel
theorem dX12_isClause_86 : decode cX12_isClause 86 = .ok (.istore_n 2, 1) := by decide +kernel
theorem dX12_isClause_87 : decode cX12_isClause 87 = .ok (.iload_n 2, 1) := by decide +kernel
theorem dX12_isClause_88 : decode cX12_isClause 88 = .ok (.ifCond .ne 12, 3) := by decide +kernel
theorem dX12_isClause_91 : decode cX12_isClause 91 = .ok (.aload_n 0, 1) := by decide +kernel
theorem dX12_isClause_92 : decode cX12_isClause 92 = .ok (.ldc 192, 2) := by decide +kernel
theorem dX12_isClause_94 : decode cX12_isClause 94 = .ok (.invokevirtual 194, 3) := by decide +kernel
theorem dX12_isClause_97 : decode cX12_isClause 97 = .ok (.goto 36, 3) := by decide +kernel
theorem dX12_isClause_100 : decode cX12_isClause 100 = .ok (.iload_n 2, 1) := by decide +kernel
theorem dX12_isClause_101 : decode cX12_isClause 101 = .ok (.iconst 1, 1) := by decide +kernel
theorem dX12_isClause_102 : decode cX12_isClause 102 = .ok (.if_icmp .ne 12, 3) := by decide +kernel
theorem dX12_isClause_105 : decode cX12_isClause 105 = .ok (.aload_n 0, 1) := by decide +kernel
theorem dX12_isClause_106 : decode cX12_isClause 106 = .ok (.ldc 198, 2) := by decide +kernel
theorem dX12_isClause_108 : decode cX12_isClause 108 = .ok (.invokevirtual 194, 3) := by decide +kernel
theorem dX12_isClause_111 : decode cX12_isClause 111 = .ok (.goto 22, 3) := by decide +kernel
theorem dX12_isClause_114 : decode cX12_isClause 114 = .ok (.iload_n 2, 1) := by decide +kernel
theorem dX12_isClause_115 : decode cX12_isClause 115 = .ok (.iconst 2, 1) := by decide +kernel
theorem dX12_isClause_116 : decode cX12_isClause 116 = .ok (.if_icmp .ne 16, 3) := by decide +kernel
theorem dX12_isClause_119 : decode cX12_isClause 119 = .ok (.aload_n 0, 1) := by decide +kernel
theorem dX12_isClause_120 : decode cX12_isClause 120 = .ok (.ldc 200, 2) := by decide +kernel
theorem dX12_isClause_122 : decode cX12_isClause 122 = .ok (.invokevirtual 194, 3) := by decide +kernel
theorem dX12_isClause_125 : decode cX12_isClause 125 = .ok (.ifCond .eq 7, 3) := by decide +kernel
theorem dX12_isClause_128 : decode cX12_isClause 128 = .ok (.iconst 1, 1) := by decide +kernel
theorem dX12_isClause_129 : decode cX12_isClause 129 = .ok (.goto 4, 3) := by decide +kernel
theorem dX12_isClause_132 : decode cX12_isClause 132 = .ok (.iconst 0, 1) := by decide +kernel
theorem dX12_isClause_133 : decode cX12_isClause 133 = .ok (.istore_n 3, 1) := by decide +kernel
theorem dX12_isClause_134 : decode cX12_isClause 134 = .ok (.iload_n 3, 1) := by decide +kernel
theorem dX12_isClause_135 : decode cX12_isClause 135 = .ok (.ifCond .eq 10, 3) := by decide +kernel
theorem dX12_isClause_138 : decode cX12_isClause 138 = .ok (.aload_n 0, 1) := by decide +kernel
theorem dX12_isClause_139 : decode cX12_isClause 139 = .ok (.invokevirtual 168, 3) := by decide +kernel
theorem dX12_isClause_142 : decode cX12_isClause 142 = .ok (.ifCond .ne 5, 3) := by decide +kernel
theorem dX12_isClause_145 : decode cX12_isClause 145 = .ok (.iconst 0, 1) := by decide +kernel
theorem dX12_isClause_146 : decode cX12_isClause 146 = .ok (.ireturn, 1) := by decide +kernel
theorem dX12_isClause_147 : decode cX12_isClause 147 = .ok (.aload_n 0, 1) := by decide +kernel
theorem dX12_isClause_148 : decode cX12_isClause 148 = .ok (.getfield 36, 3) := by decide +kernel
theorem dX12_isClause_151 : decode cX12_isClause 151 = .ok (.iload_n 1, 1) := by decide +kernel
theorem dX12_isClause_152 : decode cX12_isClause 152 = .ok (.iload_n 2, 1) := by decide +kernel
theorem dX12_isClause_153 : decode cX12_isClause 153 = .ok (.iastore, 1) := by decide +kernel
theorem dX12_isClause_154 : decode cX12_isClause 154 = .ok (.aload_n 0, 1) := by decide +kernel
theorem dX12_isClause_155 : decode cX12_isClause 155 = .ok (.getfield 39, 3) := by decide +kernel
theorem dX12_isClause_158 : decode cX12_isClause 158 = .ok (.iload_n 1, 1) := by decide +kernel
theorem dX12_isClause_159 : decode cX12_isClause 159 = .ok (.aload_n 0, 1) := by decide +kernel
theorem dX12_isClause_160 : decode cX12_isClause 160 = .ok (.getfield 136, 3) := by decide +kernel
theorem dX12_isClause_163 : decode cX12_isClause 163 = .ok (.iastore, 1) := by decide +kernel
theorem dX12_isClause_164 : decode cX12_isClause 164 = .ok (.aload_n 0, 1) := by decide +kernel
theorem dX12_isClause_165 : decode cX12_isClause 165 = .ok (.getfield 42, 3) := by decide +kernel
theorem dX12_isClause_168 : decode cX12_isClause 168 = .ok (.iload_n 1, 1) := by decide +kernel
theorem dX12_isClause_169 : decode cX12_isClause 169 = .ok (.aload_n 0, 1) := by decide +kernel
theorem dX12_isClause_170 : decode cX12_isClause 170 = .ok (.getfield 158, 3) := by decide +kernel
theorem dX12_isClause_173 : decode cX12_isClause 173 = .ok (.iastore, 1) := by decide +kernel
theorem dX12_isClause_174 : decode cX12_isClause 174 = .ok (.aload_n 0, 1) := by decide +kernel
theorem dX12_isClause_175 : decode cX12_isClause 175 = .ok (.iconst 0, 1) := by decide +kernel
theorem dX12_isClause_176 : decode cX12_isClause 176 = .ok (.putfield 174, 3) := by decide +kernel
theorem dX12_isClause_179 : decode cX12_isClause 179 = .ok (.iload_n 2, 1) := by decide +kernel
theorem dX12_isClause_180 : decode cX12_isClause 180 = .ok (.iconst 2, 1) := by decide +kernel
theorem dX12_isClause_181 : decode cX12_isClause 181 = .ok (.if_icmp .ge 21, 3) := by decide +kernel
theorem dX12_isClause_184 : decode cX12_isClause 184 = .ok (.aload_n 0, 1) := by decide +kernel
theorem dX12_isClause_185 : decode cX12_isClause 185 = .ok (.bipush 32, 2) := by decide +kernel
theorem dX12_isClause_187 : decode cX12_isClause 187 = .ok (.invokevirtual 155, 3) := by decide +kernel
theorem dX12_isClause_190 : decode cX12_isClause 190 = .ok (.ifCond .eq 10, 3) := by decide +kernel
theorem dX12_isClause_193 : decode cX12_isClause 193 = .ok (.aload_n 0, 1) := by decide +kernel
theorem dX12_isClause_194 : decode cX12_isClause 194 = .ok (.invokevirtual 183, 3) := by decide +kernel
theorem dX12_isClause_197 : decode cX12_isClause 197 = .ok (.ifCond .ne 5, 3) := by decide +kernel
theorem dX12_isClause_200 : decode cX12_isClause 200 = .ok (.iconst 0, 1) := by decide +kernel
theorem dX12_isClause_201 : decode cX12_isClause 201 = .ok (.ireturn, 1) := by decide +kernel
theorem dX12_isClause_202 : decode cX12_isClause 202 = .ok (.aload_n 0, 1) := by decide +kernel
theorem dX12_isClause_203 : decode cX12_isClause 203 = .ok (.getfield 45, 3) := by decide +kernel
theorem dX12_isClause_206 : decode cX12_isClause 206 = .ok (.iload_n 1, 1) := by decide +kernel
theorem dX12_isClause_207 : decode cX12_isClause 207 = .ok (.aload_n 0, 1) := by decide +kernel
theorem dX12_isClause_208 : decode cX12_isClause 208 = .ok (.getfield 158, 3) := by decide +kernel
theorem dX12_isClause_211 : decode cX12_isClause 211 = .ok (.aload_n 0, 1) := by decide +kernel
theorem dX12_isClause_212 : decode cX12_isClause 212 = .ok (.getfield 42, 3) := by decide +kernel
theorem dX12_isClause_215 : decode cX12_isClause 215 = .ok (.iload_n 1, 1) := by decide +kernel
theorem dX12_isClause_216 : decode cX12_isClause 216 = .ok (.iaload, 1) := by decide +kernel
theorem dX12_isClause_217 : decode cX12_isClause 217 = .ok (.isub, 1) := by decide +kernel
theorem dX12_isClause_218 : decode cX12_isClause 218 = .ok (.iastore, 1) := by decide +kernel
theorem dX12_isClause_219 : decode cX12_isClause 219 = .ok (.iconst 1, 1) := by decide +kernel
theorem dX12_isClause_220 : decode cX12_isClause 220 = .ok (.ireturn, 1) := by decide +kernel
theorem dX12_statute_0 : decode cX12_statute 0 = .ok (.aload_n 0, 1) := by decide +kernel
theorem dX12_statute_1 : decode cX12_statute 1 = .ok (.getfield 202, 3) := by decide +kernel
theorem dX12_statute_4 : decode cX12_statute 4 = .ok (.bipush 6, 2) := by decide +kernel
theorem dX12_statute_6 : decode cX12_statute 6 = .ok (.if_icmp .ne 6, 3) := by decide +kernel
theorem dX12_statute_9 : decode cX12_statute 9 = .ok (.bipush (-4), 2) := by decide +kernel
theorem dX12_statute_11 : decode cX12_statute 11 = .ok (.ireturn, 1) := by decide +kernel
theorem dX12_statute_12 : decode cX12_statute 12 = .ok (.aload_n 0, 1) := by decide +kernel
theorem dX12_statute_13 : decode cX12_statute 13 = .ok (.getfield 158, 3) := by decide +kernel
theorem dX12_statute_16 : decode cX12_statute 16 = .ok (.istore_n 1, 1) := by decide +kernel
theorem dX12_statute_17 : decode cX12_statute 17 = .ok (.aload_n 0, 1) := by decide +kernel
theorem dX12_statute_18 : decode cX12_statute 18 = .ok (.iconst 0, 1) := by decide +kernel
theorem dX12_statute_19 : decode cX12_statute 19 = .ok (.putfield 133, 3) := by decide +kernel
theorem dX12_statute_22 : decode cX12_statute 22 = .ok (.iconst 0, 1) := by decide +kernel
theorem dX12_statute_23 : decode cX12_statute 23 = .ok (.istore_n 2, 1) := by decide +kernel
theorem dX12_statute_24 : decode cX12_statute 24 = .ok (.iconst 1, 1) := by decide +kernel
theorem dX12_statute_25 : decode cX12_statute 25 = .ok (.istore_n 3, 1) := by decide +kernel
theorem dX12_statute_26 : decode cX12_statute 26 = .ok (.iconst 0, 1) := by decide +kernel
theorem dX12_statute_27 : decode cX12_statute 27 = .ok (.istore 4, 2) := by decide +kernel
theorem dX12_statute_29 : decode cX12_statute 29 = .ok (.iload_n 3, 1) := by decide +kernel
theorem dX12_statute_30 : decode cX12_statute 30 = .ok (.ifCond .eq 93, 3) := by decide +kernel
theorem dX12_statute_33 : decode cX12_statute 33 = .ok (.iload 4, 2) := by decide +kernel
theorem dX12_statute_35 : decode cX12_statute 35 = .ok (.ifCond .ne 88, 3) := by decide +kernel
theorem dX12_statute_38 : decode cX12_statute 38 = .ok (.iload_n 2, 1) := by decide +kernel
theorem dX12_statute_39 : decode cX12_statute 39 = .ok (.bipush 10, 2) := by decide +kernel
theorem dX12_statute_41 : decode cX12_statute 41 = .ok (.if_icmp .ge 23, 3) := by decide +kernel
theorem dX12_statute_44 : decode cX12_statute 44 = .ok (.aload_n 0, 1) := by decide +kernel
theorem dX12_statute_45 : decode cX12_statute 45 = .ok (.bipush 10, 2) := by decide +kernel
theorem dX12_statute_47 : decode cX12_statute 47 = .ok (.aload_n 0, 1) := by decide +kernel
theorem dX12_statute_48 : decode cX12_statute 48 = .ok (.getfield 202, 3) := by decide +kernel
theorem dX12_statute_51 : decode cX12_statute 51 = .ok (.imul, 1) := by decide +kernel
theorem dX12_statute_52 : decode cX12_statute 52 = .ok (.iload_n 2, 1) := by decide +kernel
theorem dX12_statute_53 : decode cX12_statute 53 = .ok (.iadd, 1) := by decide +kernel
theorem dX12_statute_54 : decode cX12_statute 54 = .ok (.invokevirtual 205, 3) := by decide +kernel
theorem dX12_statute_57 : decode cX12_statute 57 = .ok (.ifCond .eq 7, 3) := by decide +kernel
theorem dX12_statute_60 : decode cX12_statute 60 = .ok (.iconst 1, 1) := by decide +kernel
theorem dX12_statute_61 : decode cX12_statute 61 = .ok (.goto 4, 3) := by decide +kernel
theorem dX12_statute_64 : decode cX12_statute 64 = .ok (.iconst 0, 1) := by decide +kernel
theorem dX12_statute_65 : decode cX12_statute 65 = .ok (.istore_n 3, 1) := by decide +kernel
theorem dX12_statute_66 : decode cX12_statute 66 = .ok (.iload_n 3, 1) := by decide +kernel
theorem dX12_statute_67 : decode cX12_statute 67 = .ok (.ifCond .ne 6, 3) := by decide +kernel
theorem dX12_statute_70 : decode cX12_statute 70 = .ok (.goto (-41), 3) := by decide +kernel
theorem dX12_statute_73 : decode cX12_statute 73 = .ok (.iinc 2 1, 3) := by decide +kernel
theorem dX12_statute_76 : decode cX12_statute 76 = .ok (.aload_n 0, 1) := by decide +kernel
theorem dX12_statute_77 : decode cX12_statute 77 = .ok (.getfield 133, 3) := by decide +kernel
theorem dX12_statute_80 : decode cX12_statute 80 = .ok (.aload_n 0, 1) := by decide +kernel
theorem dX12_statute_81 : decode cX12_statute 81 = .ok (.getfield 130, 3) := by decide +kernel
theorem dX12_statute_84 : decode cX12_statute 84 = .ok (.if_icmp .ne 7, 3) := by decide +kernel
theorem dX12_statute_87 : decode cX12_statute 87 = .ok (.iconst 1, 1) := by decide +kernel
theorem dX12_statute_88 : decode cX12_statute 88 = .ok (.goto 4, 3) := by decide +kernel
theorem dX12_statute_91 : decode cX12_statute 91 = .ok (.iconst 0, 1) := by decide +kernel
theorem dX12_statute_92 : decode cX12_statute 92 = .ok (.istore 4, 2) := by decide +kernel
theorem dX12_statute_94 : decode cX12_statute 94 = .ok (.iload 4, 2) := by decide +kernel
theorem dX12_statute_96 : decode cX12_statute 96 = .ok (.ifCond .ne 18, 3) := by decide +kernel
theorem dX12_statute_99 : decode cX12_statute 99 = .ok (.iload_n 2, 1) := by decide +kernel
theorem dX12_statute_100 : decode cX12_statute 100 = .ok (.bipush 10, 2) := by decide +kernel
theorem dX12_statute_102 : decode cX12_statute 102 = .ok (.if_icmp .ge 16, 3) := by decide +kernel
theorem dX12_statute_105 : decode cX12_statute 105 = .ok (.aload_n 0, 1) := by decide +kernel
theorem dX12_statute_106 : decode cX12_statute 106 = .ok (.bipush 59, 2) := by decide +kernel
theorem dX12_statute_108 : decode cX12_statute 108 = .ok (.invokevirtual 155, 3) := by decide +kernel
theorem dX12_statute_111 : decode cX12_statute 111 = .ok (.ifCond .eq 7, 3) := by decide +kernel
theorem dX12_statute_114 : decode cX12_statute 114 = .ok (.iconst 1, 1) := by decide +kernel
theorem dX12_statute_115 : decode cX12_statute 115 = .ok (.goto 4, 3) := by decide +kernel
theorem dX12_statute_118 : decode cX12_statute 118 = .ok (.iconst 0, 1) := by decide +kernel
theorem dX12_statute_119 : decode cX12_statute 119 = .ok (.istore_n 3, 1) := by decide +kernel
theorem dX12_statute_120 : decode cX12_statute 120 = .ok (.goto (-91), 3) := by decide +kernel
theorem dX12_statute_123 : decode cX12_statute 123 = .ok (.aload_n 0, 1) := by decide +kernel
theorem dX12_statute_124 : decode cX12_statute 124 = .ok (.iconst 0, 1) := by decide +kernel
theorem dX12_statute_125 : decode cX12_statute 125 = .ok (.putfield 130, 3) := by decide +kernel
theorem dX12_statute_128 : decode cX12_statute 128 = .ok (.iload 4, 2) := by decide +kernel
theorem dX12_statute_130 : decode cX12_statute 130 = .ok (.ifCond .ne 16, 3) := by decide +kernel
theorem dX12_statute_133 : decode cX12_statute 133 = .ok (.aload_n 0, 1) := by decide +kernel
theorem dX12_statute_134 : decode cX12_statute 134 = .ok (.iload_n 1, 1) := by decide +kernel
theorem dX12_statute_135 : decode cX12_statute 135 = .ok (.putfield 158, 3) := by decide +kernel
theorem dX12_statute_138 : decode cX12_statute 138 = .ok (.bipush (-10), 2) := by decide +kernel
theorem dX12_statute_140 : decode cX12_statute 140 = .ok (.aload_n 0, 1) := by decide +kernel
theorem dX12_statute_141 : decode cX12_statute 141 = .ok (.getfield 133, 3) := by decide +kernel
theorem dX12_statute_144 : decode cX12_statute 144 = .ok (.isub, 1) := by decide +kernel
theorem dX12_statute_145 : decode cX12_statute 145 = .ok (.ireturn, 1) := by decide +kernel
theorem dX12_statute_146 : decode cX12_statute 146 = .ok (.aload_n 0, 1) := by decide +kernel
theorem dX12_statute_147 : decode cX12_statute 147 = .ok (.getfield 33, 3) := by decide +kernel
theorem dX12_statute_150 : decode cX12_statute 150 = .ok (.aload_n 0, 1) := by decide +kernel
theorem dX12_statute_151 : decode cX12_statute 151 = .ok (.getfield 202, 3) := by decide +kernel
theorem dX12_statute_154 : decode cX12_statute 154 = .ok (.iload_n 2, 1) := by decide +kernel
theorem dX12_statute_155 : decode cX12_statute 155 = .ok (.iastore, 1) := by decide +kernel
theorem dX12_statute_156 : decode cX12_statute 156 = .ok (.aload_n 0, 1) := by decide +kernel
theorem dX12_statute_157 : decode cX12_statute 157 = .ok (.aload_n 0, 1) := by decide +kernel
theorem dX12_statute_158 : decode cX12_statute 158 = .ok (.getfield 202, 3) := by decide +kernel
theorem dX12_statute_161 : decode cX12_statute 161 = .ok (.putfield 101, 3) := by decide +kernel
theorem dX12_statute_164 : decode cX12_statute 164 = .ok (.aload_n 0, 1) := by decide +kernel
theorem dX12_statute_165 : decode cX12_statute 165 = .ok (.dup, 1) := by decide +kernel
theorem dX12_statute_166 : decode cX12_statute 166 = .ok (.getfield 202, 3) := by decide +kernel
theorem dX12_statute_169 : decode cX12_statute 169 = .ok (.dup_x1, 1) := by decide +kernel
theorem dX12_statute_170 : decode cX12_statute 170 = .ok (.iconst 1, 1) := by decide +kernel
theorem dX12_statute_171 : decode cX12_statute 171 = .ok (.iadd, 1) := by decide +kernel
theorem dX12_statute_172 : decode cX12_statute 172 = .ok (.putfield 202, 3) := by decide +kernel
theorem dX12_statute_175 : decode cX12_statute 175 = .ok (.ireturn, 1) := by decide +kernel
theorem dX12_letterOf_0 : decode cX12_letterOf 0 = .ok (.iload_n 3, 1) := by decide +kernel
theorem dX12_letterOf_1 : decode cX12_letterOf 1 = .ok (.tableswitch 63 0 4 #[35, 37, 44, 51, 53], 35) := by decide +kernel
theorem dX12_letterOf_36 : decode cX12_letterOf 36 = .ok (.iload_n 1, 1) := by decide +kernel
theorem dX12_letterOf_37 : decode cX12_letterOf 37 = .ok (.ireturn, 1) := by decide +kernel
theorem dX12_letterOf_38 : decode cX12_letterOf 38 = .ok (.aload_n 0, 1) := by decide +kernel
theorem dX12_letterOf_39 : decode cX12_letterOf 39 = .ok (.getfield 15, 3) := by decide +kernel
theorem dX12_letterOf_42 : decode cX12_letterOf 42 = .ok (.iload_n 1, 1) := by decide +kernel
theorem dX12_letterOf_43 : decode cX12_letterOf 43 = .ok (.iaload, 1) := by decide +kernel
theorem dX12_letterOf_44 : decode cX12_letterOf 44 = .ok (.ireturn, 1) := by decide +kernel
theorem dX12_letterOf_45 : decode cX12_letterOf 45 = .ok (.aload_n 0, 1) := by decide +kernel
theorem dX12_letterOf_46 : decode cX12_letterOf 46 = .ok (.getfield 18, 3) := by decide +kernel
theorem dX12_letterOf_49 : decode cX12_letterOf 49 = .ok (.iload_n 1, 1) := by decide +kernel
theorem dX12_letterOf_50 : decode cX12_letterOf 50 = .ok (.iaload, 1) := by decide +kernel
theorem dX12_letterOf_51 : decode cX12_letterOf 51 = .ok (.ireturn, 1) := by decide +kernel
theorem dX12_letterOf_52 : decode cX12_letterOf 52 = .ok (.iload_n 2, 1) := by decide +kernel
theorem dX12_letterOf_53 : decode cX12_letterOf 53 = .ok (.ireturn, 1) := by decide +kernel
theorem dX12_letterOf_54 : decode cX12_letterOf 54 = .ok (.aload_n 0, 1) := by decide +kernel
theorem dX12_letterOf_55 : decode cX12_letterOf 55 = .ok (.getfield 9, 3) := by decide +kernel
theorem dX12_letterOf_58 : decode cX12_letterOf 58 = .ok (.iload_n 2, 1) := by decide +kernel
theorem dX12_letterOf_59 : decode cX12_letterOf 59 = .ok (.iaload, 1) := by decide +kernel
theorem dX12_letterOf_60 : decode cX12_letterOf 60 = .ok (.bipush 10, 2) := by decide +kernel
theorem dX12_letterOf_62 : decode cX12_letterOf 62 = .ok (.idiv, 1) := by decide +kernel
theorem dX12_letterOf_63 : decode cX12_letterOf 63 = .ok (.ireturn, 1) := by decide +kernel
theorem dX12_letterOf_64 : decode cX12_letterOf 64 = .ok (.aload_n 0, 1) := by decide +kernel
theorem dX12_letterOf_65 : decode cX12_letterOf 65 = .ok (.getfield 208, 3) := by decide +kernel
theorem dX12_letterOf_68 : decode cX12_letterOf 68 = .ok (.bipush 10, 2) := by decide +kernel
theorem dX12_letterOf_70 : decode cX12_letterOf 70 = .ok (.irem, 1) := by decide +kernel
theorem dX12_letterOf_71 : decode cX12_letterOf 71 = .ok (.ireturn, 1) := by decide +kernel
theorem dX12_isTrue_0 : decode cX12_isTrue 0 = .ok (.iconst 0, 1) := by decide +kernel
theorem dX12_isTrue_1 : decode cX12_isTrue 1 = .ok (.istore 4, 2) := by decide +kernel
theorem dX12_isTrue_3 : decode cX12_isTrue 3 = .ok (.aload_n 0, 1) := by decide +kernel
theorem dX12_isTrue_4 : decode cX12_isTrue 4 = .ok (.getfield 42, 3) := by decide +kernel
theorem dX12_isTrue_7 : decode cX12_isTrue 7 = .ok (.iload_n 3, 1) := by decide +kernel
theorem dX12_isTrue_8 : decode cX12_isTrue 8 = .ok (.iaload, 1) := by decide +kernel
theorem dX12_isTrue_9 : decode cX12_isTrue 9 = .ok (.istore 5, 2) := by decide +kernel
theorem dX12_isTrue_11 : decode cX12_isTrue 11 = .ok (.iload 5, 2) := by decide +kernel
theorem dX12_isTrue_13 : decode cX12_isTrue 13 = .ok (.aload_n 0, 1) := by decide +kernel
theorem dX12_isTrue_14 : decode cX12_isTrue 14 = .ok (.getfield 42, 3) := by decide +kernel
theorem dX12_isTrue_17 : decode cX12_isTrue 17 = .ok (.iload_n 3, 1) := by decide +kernel
theorem dX12_isTrue_18 : decode cX12_isTrue 18 = .ok (.iaload, 1) := by decide +kernel
theorem dX12_isTrue_19 : decode cX12_isTrue 19 = .ok (.aload_n 0, 1) := by decide +kernel
theorem dX12_isTrue_20 : decode cX12_isTrue 20 = .ok (.getfield 45, 3) := by decide +kernel
theorem dX12_isTrue_23 : decode cX12_isTrue 23 = .ok (.iload_n 3, 1) := by decide +kernel
theorem dX12_isTrue_24 : decode cX12_isTrue 24 = .ok (.iaload, 1) := by decide +kernel
theorem dX12_isTrue_25 : decode cX12_isTrue 25 = .ok (.iadd, 1) := by decide +kernel
theorem dX12_isTrue_26 : decode cX12_isTrue 26 = .ok (.if_icmp .ge 235, 3) := by decide +kernel
theorem dX12_isTrue_29 : decode cX12_isTrue 29 = .ok (.aload_n 0, 1) := by decide +kernel
theorem dX12_isTrue_30 : decode cX12_isTrue 30 = .ok (.getfield 48, 3) := by decide +kernel
theorem dX12_isTrue_33 : decode cX12_isTrue 33 = .ok (.iload 5, 2) := by decide +kernel
theorem dX12_isTrue_35 : decode cX12_isTrue 35 = .ok (.iaload, 1) := by decide +kernel
theorem dX12_isTrue_36 : decode cX12_isTrue 36 = .ok (.istore 6, 2) := by decide +kernel
theorem dX12_isTrue_38 : decode cX12_isTrue 38 = .ok (.iload 6, 2) := by decide +kernel
theorem dX12_isTrue_40 : decode cX12_isTrue 40 = .ok (.iconst 3, 1) := by decide +kernel
theorem dX12_isTrue_41 : decode cX12_isTrue 41 = .ok (.if_icmp .lt 105, 3) := by decide +kernel
theorem dX12_isTrue_44 : decode cX12_isTrue 44 = .ok (.aload_n 0, 1) := by decide +kernel
theorem dX12_isTrue_45 : decode cX12_isTrue 45 = .ok (.iload_n 1, 1) := by decide +kernel
theorem dX12_isTrue_46 : decode cX12_isTrue 46 = .ok (.iload_n 2, 1) := by decide +kernel
theorem dX12_isTrue_47 : decode cX12_isTrue 47 = .ok (.iload 6, 2) := by decide +kernel
theorem dX12_isTrue_49 : decode cX12_isTrue 49 = .ok (.iconst 3, 1) := by decide +kernel
theorem dX12_isTrue_50 : decode cX12_isTrue 50 = .ok (.isub, 1) := by decide +kernel
theorem dX12_isTrue_51 : decode cX12_isTrue 51 = .ok (.sipush 300, 3) := by decide +kernel
theorem dX12_isTrue_54 : decode cX12_isTrue 54 = .ok (.idiv, 1) := by decide +kernel
theorem dX12_isTrue_55 : decode cX12_isTrue 55 = .ok (.invokevirtual 211, 3) := by decide +kernel
theorem dX12_isTrue_58 : decode cX12_isTrue 58 = .ok (.istore 7, 2) := by decide +kernel
theorem dX12_isTrue_60 : decode cX12_isTrue 60 = .ok (.iload 6, 2) := by decide +kernel
theorem dX12_isTrue_62 : decode cX12_isTrue 62 = .ok (.iconst 3, 1) := by decide +kernel
theorem dX12_isTrue_63 : decode cX12_isTrue 63 = .ok (.isub, 1) := by decide +kernel
theorem dX12_isTrue_64 : decode cX12_isTrue 64 = .ok (.bipush 100, 2) := by decide +kernel
theorem dX12_isTrue_66 : decode cX12_isTrue 66 = .ok (.irem, 1) := by decide +kernel
theorem dX12_isTrue_67 : decode cX12_isTrue 67 = .ok (.istore 8, 2) := by decide +kernel
theorem dX12_isTrue_69 : decode cX12_isTrue 69 = .ok (.iload 6, 2) := by decide +kernel
theorem dX12_isTrue_71 : decode cX12_isTrue 71 = .ok (.iconst 3, 1) := by decide +kernel
theorem dX12_isTrue_72 : decode cX12_isTrue 72 = .ok (.isub, 1) := by decide +kernel
theorem dX12_isTrue_73 : decode cX12_isTrue 73 = .ok (.bipush 100, 2) := by decide +kernel
theorem dX12_isTrue_75 : decode cX12_isTrue 75 = .ok (.idiv, 1) := by decide +kernel
theorem dX12_isTrue_76 : decode cX12_isTrue 76 = .ok (.iconst 3, 1) := by decide +kernel
theorem dX12_isTrue_77 : decode cX12_isTrue 77 = .ok (.irem, 1) := by decide +kernel
theorem dX12_isTrue_78 : decode cX12_isTrue 78 = .ok (.istore 9, 2) := by decide +kernel
theorem dX12_isTrue_80 : decode cX12_isTrue 80 = .ok (.aload_n 0, 1) := by decide +kernel
theorem dX12_isTrue_81 : decode cX12_isTrue 81 = .ok (.getfield 51, 3) := by decide +kernel
theorem dX12_isTrue_84 : decode cX12_isTrue 84 = .ok (.iload 4, 2) := by decide +kernel
theorem dX12_isTrue_86 : decode cX12_isTrue 86 = .ok (.iinc 4 1, 3) := by decide +kernel
theorem dX12_isTrue_89 : decode cX12_isTrue 89 = .ok (.iload 9, 2) := by decide +kernel
theorem dX12_isTrue_91 : decode cX12_isTrue 91 = .ok (.ifCond .ne 18, 3) := by decide +kernel
theorem dX12_isTrue_94 : decode cX12_isTrue 94 = .ok (.iload 7, 2) := by decide +kernel
theorem dX12_isTrue_96 : decode cX12_isTrue 96 = .ok (.iload 8, 2) := by decide +kernel
theorem dX12_isTrue_98 : decode cX12_isTrue 98 = .ok (.if_icmp .ge 7, 3) := by decide +kernel
theorem dX12_isTrue_101 : decode cX12_isTrue 101 = .ok (.iconst 1, 1) := by decide +kernel
theorem dX12_isTrue_102 : decode cX12_isTrue 102 = .ok (.goto 40, 3) := by decide +kernel
theorem dX12_isTrue_105 : decode cX12_isTrue 105 = .ok (.iconst 0, 1) := by decide +kernel
theorem dX12_isTrue_106 : decode cX12_isTrue 106 = .ok (.goto 36, 3) := by decide +kernel
theorem dX12_isTrue_109 : decode cX12_isTrue 109 = .ok (.iload 9, 2) := by decide +kernel
theorem dX12_isTrue_111 : decode cX12_isTrue 111 = .ok (.iconst 1, 1) := by decide +kernel
theorem dX12_isTrue_112 : decode cX12_isTrue 112 = .ok (.if_icmp .ne 18, 3) := by decide +kernel
theorem dX12_isTrue_115 : decode cX12_isTrue 115 = .ok (.iload 7, 2) := by decide +kernel
theorem dX12_isTrue_117 : decode cX12_isTrue 117 = .ok (.iload 8, 2) := by decide +kernel
theorem dX12_isTrue_119 : decode cX12_isTrue 119 = .ok (.if_icmp .ne 7, 3) := by decide +kernel
theorem dX12_isTrue_122 : decode cX12_isTrue 122 = .ok (.iconst 1, 1) := by decide +kernel
theorem dX12_isTrue_123 : decode cX12_isTrue 123 = .ok (.goto 19, 3) := by decide +kernel
theorem dX12_isTrue_126 : decode cX12_isTrue 126 = .ok (.iconst 0, 1) := by decide +kernel
theorem dX12_isTrue_127 : decode cX12_isTrue 127 = .ok (.goto 15, 3) := by decide +kernel
theorem dX12_isTrue_130 : decode cX12_isTrue 130 = .ok (.iload 7, 2) := by decide +kernel
theorem dX12_isTrue_132 : decode cX12_isTrue 132 = .ok (.iload 8, 2) := by decide +kernel
theorem dX12_isTrue_134 : decode cX12_isTrue 134 = .ok (.if_icmp .le 7, 3) := by decide +kernel
theorem dX12_isTrue_137 : decode cX12_isTrue 137 = .ok (.iconst 1, 1) := by decide +kernel
theorem dX12_isTrue_138 : decode cX12_isTrue 138 = .ok (.goto 4, 3) := by decide +kernel
theorem dX12_isTrue_141 : decode cX12_isTrue 141 = .ok (.iconst 0, 1) := by decide +kernel
theorem dX12_isTrue_142 : decode cX12_isTrue 142 = .ok (.bastore, 1) := by decide +kernel
theorem dX12_isTrue_143 : decode cX12_isTrue 143 = .ok (.goto 112, 3) := by decide +kernel
theorem dX12_isTrue_146 : decode cX12_isTrue 146 = .ok (.iload 6, 2) := by decide +kernel
theorem dX12_isTrue_148 : decode cX12_isTrue 148 = .ok (.ifCond .ne 32, 3) := by decide +kernel
theorem dX12_isTrue_151 : decode cX12_isTrue 151 = .ok (.aload_n 0, 1) := by decide +kernel
theorem dX12_isTrue_152 : decode cX12_isTrue 152 = .ok (.getfield 51, 3) := by decide +kernel
theorem dX12_isTrue_155 : decode cX12_isTrue 155 = .ok (.iload 4, 2) := by decide +kernel
theorem dX12_isTrue_157 : decode cX12_isTrue 157 = .ok (.iconst 1, 1) := by decide +kernel
theorem dX12_isTrue_158 : decode cX12_isTrue 158 = .ok (.isub, 1) := by decide +kernel
theorem dX12_isTrue_159 : decode cX12_isTrue 159 = .ok (.aload_n 0, 1) := by decide +kernel
theorem dX12_isTrue_160 : decode cX12_isTrue 160 = .ok (.getfield 51, 3) := by decide +kernel
theorem dX12_isTrue_163 : decode cX12_isTrue 163 = .ok (.iload 4, 2) := by decide +kernel
theorem dX12_isTrue_165 : decode cX12_isTrue 165 = .ok (.iconst 1, 1) := by decide +kernel
theorem dX12_isTrue_166 : decode cX12_isTrue 166 = .ok (.isub, 1) := by decide +kernel
theorem dX12_isTrue_167 : decode cX12_isTrue 167 = .ok (.baload, 1) := by decide +kernel
theorem dX12_isTrue_168 : decode cX12_isTrue 168 = .ok (.ifCond .ne 7, 3) := by decide +kernel
theorem dX12_isTrue_171 : decode cX12_isTrue 171 = .ok (.iconst 1, 1) := by decide +kernel
theorem dX12_isTrue_172 : decode cX12_isTrue 172 = .ok (.goto 4, 3) := by decide +kernel
theorem dX12_isTrue_175 : decode cX12_isTrue 175 = .ok (.iconst 0, 1) := by decide +kernel
theorem dX12_isTrue_176 : decode cX12_isTrue 176 = .ok (.bastore, 1) := by decide +kernel
theorem dX12_isTrue_177 : decode cX12_isTrue 177 = .ok (.goto 78, 3) := by decide +kernel
theorem dX12_isTrue_180 : decode cX12_isTrue 180 = .ok (.iinc 4 (-1), 3) := by decide +kernel
theorem dX12_isTrue_183 : decode cX12_isTrue 183 = .ok (.aload_n 0, 1) := by decide +kernel
theorem dX12_isTrue_184 : decode cX12_isTrue 184 = .ok (.getfield 51, 3) := by decide +kernel
theorem dX12_isTrue_187 : decode cX12_isTrue 187 = .ok (.iload 4, 2) := by decide +kernel
theorem dX12_isTrue_189 : decode cX12_isTrue 189 = .ok (.iconst 1, 1) := by decide +kernel
theorem dX12_isTrue_190 : decode cX12_isTrue 190 = .ok (.isub, 1) := by decide +kernel
theorem dX12_isTrue_191 : decode cX12_isTrue 191 = .ok (.iload 6, 2) := by decide +kernel
theorem dX12_isTrue_193 : decode cX12_isTrue 193 = .ok (.iconst 1, 1) := by decide +kernel
theorem dX12_isTrue_194 : decode cX12_isTrue 194 = .ok (.if_icmp .ne 33, 3) := by decide +kernel
theorem dX12_isTrue_197 : decode cX12_isTrue 197 = .ok (.aload_n 0, 1) := by decide +kernel
theorem dX12_isTrue_198 : decode cX12_isTrue 198 = .ok (.getfield 51, 3) := by decide +kernel
theorem dX12_isTrue_201 : decode cX12_isTrue 201 = .ok (.iload 4, 2) := by decide +kernel
theorem dX12_isTrue_203 : decode cX12_isTrue 203 = .ok (.iconst 1, 1) := by decide +kernel
theorem dX12_isTrue_204 : decode cX12_isTrue 204 = .ok (.isub, 1) := by decide +kernel
theorem dX12_isTrue_205 : decode cX12_isTrue 205 = .ok (.baload, 1) := by decide +kernel
theorem dX12_isTrue_206 : decode cX12_isTrue 206 = .ok (.ifCond .eq 17, 3) := by decide +kernel
theorem dX12_isTrue_209 : decode cX12_isTrue 209 = .ok (.aload_n 0, 1) := by decide +kernel
theorem dX12_isTrue_210 : decode cX12_isTrue 210 = .ok (.getfield 51, 3) := by decide +kernel
theorem dX12_isTrue_213 : decode cX12_isTrue 213 = .ok (.iload 4, 2) := by decide +kernel
theorem dX12_isTrue_215 : decode cX12_isTrue 215 = .ok (.baload, 1) := by decide +kernel
theorem dX12_isTrue_216 : decode cX12_isTrue 216 = .ok (.ifCond .eq 7, 3) := by decide +kernel
theorem dX12_isTrue_219 : decode cX12_isTrue 219 = .ok (.iconst 1, 1) := by decide +kernel
theorem dX12_isTrue_220 : decode cX12_isTrue 220 = .ok (.goto 34, 3) := by decide +kernel
theorem dX12_isTrue_223 : decode cX12_isTrue 223 = .ok (.iconst 0, 1) := by decide +kernel
theorem dX12_isTrue_224 : decode cX12_isTrue 224 = .ok (.goto 30, 3) := by decide +kernel
theorem dX12_isTrue_227 : decode cX12_isTrue 227 = .ok (.aload_n 0, 1) := by decide +kernel
theorem dX12_isTrue_228 : decode cX12_isTrue 228 = .ok (.getfield 51, 3) := by decide +kernel
theorem dX12_isTrue_231 : decode cX12_isTrue 231 = .ok (.iload 4, 2) := by decide +kernel
theorem dX12_isTrue_233 : decode cX12_isTrue 233 = .ok (.iconst 1, 1) := by decide +kernel
theorem dX12_isTrue_234 : decode cX12_isTrue 234 = .ok (.isub, 1) := by decide +kernel
theorem dX12_isTrue_235 : decode cX12_isTrue 235 = .ok (.baload, 1) := by decide +kernel
theorem dX12_isTrue_236 : decode cX12_isTrue 236 = .ok (.ifCond .ne 13, 3) := by decide +kernel
theorem dX12_isTrue_239 : decode cX12_isTrue 239 = .ok (.aload_n 0, 1) := by decide +kernel
theorem dX12_isTrue_240 : decode cX12_isTrue 240 = .ok (.getfield 51, 3) := by decide +kernel
theorem dX12_isTrue_243 : decode cX12_isTrue 243 = .ok (.iload 4, 2) := by decide +kernel
theorem dX12_isTrue_245 : decode cX12_isTrue 245 = .ok (.baload, 1) := by decide +kernel
theorem dX12_isTrue_246 : decode cX12_isTrue 246 = .ok (.ifCond .eq 7, 3) := by decide +kernel
theorem dX12_isTrue_249 : decode cX12_isTrue 249 = .ok (.iconst 1, 1) := by decide +kernel
theorem dX12_isTrue_250 : decode cX12_isTrue 250 = .ok (.goto 4, 3) := by decide +kernel
theorem dX12_isTrue_253 : decode cX12_isTrue 253 = .ok (.iconst 0, 1) := by decide +kernel
theorem dX12_isTrue_254 : decode cX12_isTrue 254 = .ok (.bastore, 1) := by decide +kernel
theorem dX12_isTrue_255 : decode cX12_isTrue 255 = .ok (.iinc 5 1, 3) := by decide +kernel
theorem dX12_isTrue_258 : decode cX12_isTrue 258 = .ok (.goto (-247), 3) := by decide +kernel
theorem dX12_isTrue_261 : decode cX12_isTrue 261 = .ok (.aload_n 0, 1) := by decide +kernel
theorem dX12_isTrue_262 : decode cX12_isTrue 262 = .ok (.getfield 51, 3) := by decide +kernel
theorem dX12_isTrue_265 : decode cX12_isTrue 265 = .ok (.iconst 0, 1) := by decide +kernel
theorem dX12_isTrue_266 : decode cX12_isTrue 266 = .ok (.baload, 1) := by decide +kernel
theorem dX12_isTrue_267 : decode cX12_isTrue 267 = .ok (.ireturn, 1) := by decide +kernel
theorem dX12_sum_0 : decode cX12_sum 0 = .ok (.aload_n 0, 1) := by decide +kernel
theorem dX12_sum_1 : decode cX12_sum 1 = .ok (.getfield 9, 3) := by decide +kernel
theorem dX12_sum_4 : decode cX12_sum 4 = .ok (.iload_n 2, 1) := by decide +kernel
theorem dX12_sum_5 : decode cX12_sum 5 = .ok (.iaload, 1) := by decide +kernel
theorem dX12_sum_6 : decode cX12_sum 6 = .ok (.istore_n 3, 1) := by decide +kernel
theorem dX12_sum_7 : decode cX12_sum 7 = .ok (.iconst 0, 1) := by decide +kernel
theorem dX12_sum_8 : decode cX12_sum 8 = .ok (.istore 4, 2) := by decide +kernel
theorem dX12_sum_10 : decode cX12_sum 10 = .ok (.aload_n 0, 1) := by decide +kernel
theorem dX12_sum_11 : decode cX12_sum 11 = .ok (.getfield 101, 3) := by decide +kernel
theorem dX12_sum_14 : decode cX12_sum 14 = .ok (.iconst (-1), 1) := by decide +kernel
theorem dX12_sum_15 : decode cX12_sum 15 = .ok (.if_icmp .eq 88, 3) := by decide +kernel
theorem dX12_sum_18 : decode cX12_sum 18 = .ok (.iload 4, 2) := by decide +kernel
theorem dX12_sum_20 : decode cX12_sum 20 = .ok (.aload_n 0, 1) := by decide +kernel
theorem dX12_sum_21 : decode cX12_sum 21 = .ok (.getfield 33, 3) := by decide +kernel
theorem dX12_sum_24 : decode cX12_sum 24 = .ok (.aload_n 0, 1) := by decide +kernel
theorem dX12_sum_25 : decode cX12_sum 25 = .ok (.getfield 101, 3) := by decide +kernel
theorem dX12_sum_28 : decode cX12_sum 28 = .ok (.iaload, 1) := by decide +kernel
theorem dX12_sum_29 : decode cX12_sum 29 = .ok (.if_icmp .ge 74, 3) := by decide +kernel
theorem dX12_sum_32 : decode cX12_sum 32 = .ok (.bipush 10, 2) := by decide +kernel
theorem dX12_sum_34 : decode cX12_sum 34 = .ok (.aload_n 0, 1) := by decide +kernel
theorem dX12_sum_35 : decode cX12_sum 35 = .ok (.getfield 101, 3) := by decide +kernel
theorem dX12_sum_38 : decode cX12_sum 38 = .ok (.imul, 1) := by decide +kernel
theorem dX12_sum_39 : decode cX12_sum 39 = .ok (.iload 4, 2) := by decide +kernel
theorem dX12_sum_41 : decode cX12_sum 41 = .ok (.iadd, 1) := by decide +kernel
theorem dX12_sum_42 : decode cX12_sum 42 = .ok (.istore 5, 2) := by decide +kernel
theorem dX12_sum_44 : decode cX12_sum 44 = .ok (.aload_n 0, 1) := by decide +kernel
theorem dX12_sum_45 : decode cX12_sum 45 = .ok (.getfield 36, 3) := by decide +kernel
theorem dX12_sum_48 : decode cX12_sum 48 = .ok (.iload 5, 2) := by decide +kernel
theorem dX12_sum_50 : decode cX12_sum 50 = .ok (.iaload, 1) := by decide +kernel
theorem dX12_sum_51 : decode cX12_sum 51 = .ok (.iconst 2, 1) := by decide +kernel
theorem dX12_sum_52 : decode cX12_sum 52 = .ok (.if_icmp .ge 45, 3) := by decide +kernel
theorem dX12_sum_55 : decode cX12_sum 55 = .ok (.aload_n 0, 1) := by decide +kernel
theorem dX12_sum_56 : decode cX12_sum 56 = .ok (.iload_n 1, 1) := by decide +kernel
theorem dX12_sum_57 : decode cX12_sum 57 = .ok (.iload_n 2, 1) := by decide +kernel
theorem dX12_sum_58 : decode cX12_sum 58 = .ok (.iload 5, 2) := by decide +kernel
theorem dX12_sum_60 : decode cX12_sum 60 = .ok (.invokevirtual 215, 3) := by decide +kernel
theorem dX12_sum_63 : decode cX12_sum 63 = .ok (.ifCond .eq 34, 3) := by decide +kernel
theorem dX12_sum_66 : decode cX12_sum 66 = .ok (.iload_n 3, 1) := by decide +kernel
theorem dX12_sum_67 : decode cX12_sum 67 = .ok (.aload_n 0, 1) := by decide +kernel
theorem dX12_sum_68 : decode cX12_sum 68 = .ok (.getfield 36, 3) := by decide +kernel
theorem dX12_sum_71 : decode cX12_sum 71 = .ok (.iload 5, 2) := by decide +kernel
theorem dX12_sum_73 : decode cX12_sum 73 = .ok (.iaload, 1) := by decide +kernel
theorem dX12_sum_74 : decode cX12_sum 74 = .ok (.ifCond .ne 13, 3) := by decide +kernel
theorem dX12_sum_77 : decode cX12_sum 77 = .ok (.aload_n 0, 1) := by decide +kernel
theorem dX12_sum_78 : decode cX12_sum 78 = .ok (.getfield 39, 3) := by decide +kernel
theorem dX12_sum_81 : decode cX12_sum 81 = .ok (.iload 5, 2) := by decide +kernel
theorem dX12_sum_83 : decode cX12_sum 83 = .ok (.iaload, 1) := by decide +kernel
theorem dX12_sum_84 : decode cX12_sum 84 = .ok (.goto 11, 3) := by decide +kernel
theorem dX12_sum_87 : decode cX12_sum 87 = .ok (.aload_n 0, 1) := by decide +kernel
theorem dX12_sum_88 : decode cX12_sum 88 = .ok (.getfield 39, 3) := by decide +kernel
theorem dX12_sum_91 : decode cX12_sum 91 = .ok (.iload 5, 2) := by decide +kernel
theorem dX12_sum_93 : decode cX12_sum 93 = .ok (.iaload, 1) := by decide +kernel
theorem dX12_sum_94 : decode cX12_sum 94 = .ok (.ineg, 1) := by decide +kernel
end
section
theorem dX12_sum_95 : decode cX12_sum 95 = .ok (.iadd, 1) := by decide +kernel
theorem dX12_sum_96 : decode cX12_sum 96 = .ok (.istore_n 3, 1) := by decide +kernel
theorem dX12_sum_97 : decode cX12_sum 97 = .ok (.iinc 4 1, 3) := by decide +kernel
theorem dX12_sum_100 : decode cX12_sum 100 = .ok (.goto (-90), 3) := by decide +kernel
theorem dX12_sum_103 : decode cX12_sum 103 = .ok (.iload_n 3, 1) := by decide +kernel
theorem dX12_sum_104 : decode cX12_sum 104 = .ok (.ireturn, 1) := by decide +kernel
theorem dX12_baldFrom_0 : decode cX12_baldFrom 0 = .ok (.bipush 95, 2) := by decide +kernel
theorem dX12_baldFrom_2 : decode cX12_baldFrom 2 = .ok (.istore_n 1, 1) := by decide +kernel
theorem dX12_baldFrom_3 : decode cX12_baldFrom 3 = .ok (.iconst 0, 1) := by decide +kernel
theorem dX12_baldFrom_4 : decode cX12_baldFrom 4 = .ok (.istore_n 2, 1) := by decide +kernel
theorem dX12_baldFrom_5 : decode cX12_baldFrom 5 = .ok (.aload_n 0, 1) := by decide +kernel
theorem dX12_baldFrom_6 : decode cX12_baldFrom 6 = .ok (.getfield 101, 3) := by decide +kernel
theorem dX12_baldFrom_9 : decode cX12_baldFrom 9 = .ok (.iconst (-1), 1) := by decide +kernel
theorem dX12_baldFrom_10 : decode cX12_baldFrom 10 = .ok (.if_icmp .eq 55, 3) := by decide +kernel
theorem dX12_baldFrom_13 : decode cX12_baldFrom 13 = .ok (.iload_n 2, 1) := by decide +kernel
theorem dX12_baldFrom_14 : decode cX12_baldFrom 14 = .ok (.aload_n 0, 1) := by decide +kernel
theorem dX12_baldFrom_15 : decode cX12_baldFrom 15 = .ok (.getfield 33, 3) := by decide +kernel
theorem dX12_baldFrom_18 : decode cX12_baldFrom 18 = .ok (.aload_n 0, 1) := by decide +kernel
theorem dX12_baldFrom_19 : decode cX12_baldFrom 19 = .ok (.getfield 101, 3) := by decide +kernel
theorem dX12_baldFrom_22 : decode cX12_baldFrom 22 = .ok (.iaload, 1) := by decide +kernel
theorem dX12_baldFrom_23 : decode cX12_baldFrom 23 = .ok (.if_icmp .ge 42, 3) := by decide +kernel
theorem dX12_baldFrom_26 : decode cX12_baldFrom 26 = .ok (.aload_n 0, 1) := by decide +kernel
theorem dX12_baldFrom_27 : decode cX12_baldFrom 27 = .ok (.getfield 36, 3) := by decide +kernel
theorem dX12_baldFrom_30 : decode cX12_baldFrom 30 = .ok (.bipush 10, 2) := by decide +kernel
theorem dX12_baldFrom_32 : decode cX12_baldFrom 32 = .ok (.aload_n 0, 1) := by decide +kernel
theorem dX12_baldFrom_33 : decode cX12_baldFrom 33 = .ok (.getfield 101, 3) := by decide +kernel
theorem dX12_baldFrom_36 : decode cX12_baldFrom 36 = .ok (.imul, 1) := by decide +kernel
theorem dX12_baldFrom_37 : decode cX12_baldFrom 37 = .ok (.iload_n 2, 1) := by decide +kernel
theorem dX12_baldFrom_38 : decode cX12_baldFrom 38 = .ok (.iadd, 1) := by decide +kernel
theorem dX12_baldFrom_39 : decode cX12_baldFrom 39 = .ok (.iaload, 1) := by decide +kernel
theorem dX12_baldFrom_40 : decode cX12_baldFrom 40 = .ok (.iconst 2, 1) := by decide +kernel
theorem dX12_baldFrom_41 : decode cX12_baldFrom 41 = .ok (.if_icmp .ne 18, 3) := by decide +kernel
theorem dX12_baldFrom_44 : decode cX12_baldFrom 44 = .ok (.aload_n 0, 1) := by decide +kernel
theorem dX12_baldFrom_45 : decode cX12_baldFrom 45 = .ok (.getfield 39, 3) := by decide +kernel
theorem dX12_baldFrom_48 : decode cX12_baldFrom 48 = .ok (.bipush 10, 2) := by decide +kernel
theorem dX12_baldFrom_50 : decode cX12_baldFrom 50 = .ok (.aload_n 0, 1) := by decide +kernel
theorem dX12_baldFrom_51 : decode cX12_baldFrom 51 = .ok (.getfield 101, 3) := by decide +kernel
theorem dX12_baldFrom_54 : decode cX12_baldFrom 54 = .ok (.imul, 1) := by decide +kernel
theorem dX12_baldFrom_55 : decode cX12_baldFrom 55 = .ok (.iload_n 2, 1) := by decide +kernel
theorem dX12_baldFrom_56 : decode cX12_baldFrom 56 = .ok (.iadd, 1) := by decide +kernel
theorem dX12_baldFrom_57 : decode cX12_baldFrom 57 = .ok (.iaload, 1) := by decide +kernel
theorem dX12_baldFrom_58 : decode cX12_baldFrom 58 = .ok (.istore_n 1, 1) := by decide +kernel
theorem dX12_baldFrom_59 : decode cX12_baldFrom 59 = .ok (.iinc 2 1, 3) := by decide +kernel
theorem dX12_baldFrom_62 : decode cX12_baldFrom 62 = .ok (.goto (-57), 3) := by decide +kernel
theorem dX12_baldFrom_65 : decode cX12_baldFrom 65 = .ok (.iload_n 1, 1) := by decide +kernel
theorem dX12_baldFrom_66 : decode cX12_baldFrom 66 = .ok (.ireturn, 1) := by decide +kernel
theorem dX12_pullOf_0 : decode cX12_pullOf 0 = .ok (.aload_n 0, 1) := by decide +kernel
theorem dX12_pullOf_1 : decode cX12_pullOf 1 = .ok (.iload_n 1, 1) := by decide +kernel
theorem dX12_pullOf_2 : decode cX12_pullOf 2 = .ok (.iload_n 2, 1) := by decide +kernel
theorem dX12_pullOf_3 : decode cX12_pullOf 3 = .ok (.invokevirtual 218, 3) := by decide +kernel
theorem dX12_pullOf_6 : decode cX12_pullOf 6 = .ok (.istore_n 3, 1) := by decide +kernel
theorem dX12_pullOf_7 : decode cX12_pullOf 7 = .ok (.aload_n 0, 1) := by decide +kernel
theorem dX12_pullOf_8 : decode cX12_pullOf 8 = .ok (.getfield 208, 3) := by decide +kernel
theorem dX12_pullOf_11 : decode cX12_pullOf 11 = .ok (.iconst 2, 1) := by decide +kernel
theorem dX12_pullOf_12 : decode cX12_pullOf 12 = .ok (.irem, 1) := by decide +kernel
theorem dX12_pullOf_13 : decode cX12_pullOf 13 = .ok (.iconst 1, 1) := by decide +kernel
theorem dX12_pullOf_14 : decode cX12_pullOf 14 = .ok (.if_icmp .ne 9, 3) := by decide +kernel
theorem dX12_pullOf_17 : decode cX12_pullOf 17 = .ok (.iload_n 3, 1) := by decide +kernel
theorem dX12_pullOf_18 : decode cX12_pullOf 18 = .ok (.iconst 2, 1) := by decide +kernel
theorem dX12_pullOf_19 : decode cX12_pullOf 19 = .ok (.idiv, 1) := by decide +kernel
theorem dX12_pullOf_20 : decode cX12_pullOf 20 = .ok (.goto 4, 3) := by decide +kernel
theorem dX12_pullOf_23 : decode cX12_pullOf 23 = .ok (.iload_n 3, 1) := by decide +kernel
theorem dX12_pullOf_24 : decode cX12_pullOf 24 = .ok (.istore 4, 2) := by decide +kernel
theorem dX12_pullOf_26 : decode cX12_pullOf 26 = .ok (.aload_n 0, 1) := by decide +kernel
theorem dX12_pullOf_27 : decode cX12_pullOf 27 = .ok (.getfield 15, 3) := by decide +kernel
theorem dX12_pullOf_30 : decode cX12_pullOf 30 = .ok (.iload_n 1, 1) := by decide +kernel
theorem dX12_pullOf_31 : decode cX12_pullOf 31 = .ok (.iaload, 1) := by decide +kernel
theorem dX12_pullOf_32 : decode cX12_pullOf 32 = .ok (.tableswitch 114 2 6 #[36, 39, 42, 61, 95], 36) := by decide +kernel
theorem dX12_pullOf_68 : decode cX12_pullOf 68 = .ok (.iload_n 3, 1) := by decide +kernel
theorem dX12_pullOf_69 : decode cX12_pullOf 69 = .ok (.ineg, 1) := by decide +kernel
theorem dX12_pullOf_70 : decode cX12_pullOf 70 = .ok (.ireturn, 1) := by decide +kernel
theorem dX12_pullOf_71 : decode cX12_pullOf 71 = .ok (.iload 4, 2) := by decide +kernel
theorem dX12_pullOf_73 : decode cX12_pullOf 73 = .ok (.ireturn, 1) := by decide +kernel
theorem dX12_pullOf_74 : decode cX12_pullOf 74 = .ok (.iload_n 2, 1) := by decide +kernel
theorem dX12_pullOf_75 : decode cX12_pullOf 75 = .ok (.iconst 2, 1) := by decide +kernel
theorem dX12_pullOf_76 : decode cX12_pullOf 76 = .ok (.irem, 1) := by decide +kernel
theorem dX12_pullOf_77 : decode cX12_pullOf 77 = .ok (.ifCond .ne 14, 3) := by decide +kernel
theorem dX12_pullOf_80 : decode cX12_pullOf 80 = .ok (.iload_n 3, 1) := by decide +kernel
theorem dX12_pullOf_81 : decode cX12_pullOf 81 = .ok (.aload_n 0, 1) := by decide +kernel
theorem dX12_pullOf_82 : decode cX12_pullOf 82 = .ok (.getfield 18, 3) := by decide +kernel
theorem dX12_pullOf_85 : decode cX12_pullOf 85 = .ok (.iload_n 1, 1) := by decide +kernel
theorem dX12_pullOf_86 : decode cX12_pullOf 86 = .ok (.iaload, 1) := by decide +kernel
theorem dX12_pullOf_87 : decode cX12_pullOf 87 = .ok (.iadd, 1) := by decide +kernel
theorem dX12_pullOf_88 : decode cX12_pullOf 88 = .ok (.goto 4, 3) := by decide +kernel
theorem dX12_pullOf_91 : decode cX12_pullOf 91 = .ok (.iload_n 3, 1) := by decide +kernel
theorem dX12_pullOf_92 : decode cX12_pullOf 92 = .ok (.ireturn, 1) := by decide +kernel
theorem dX12_pullOf_93 : decode cX12_pullOf 93 = .ok (.aload_n 0, 1) := by decide +kernel
theorem dX12_pullOf_94 : decode cX12_pullOf 94 = .ok (.getfield 21, 3) := by decide +kernel
theorem dX12_pullOf_97 : decode cX12_pullOf 97 = .ok (.iload_n 1, 1) := by decide +kernel
theorem dX12_pullOf_98 : decode cX12_pullOf 98 = .ok (.iaload, 1) := by decide +kernel
theorem dX12_pullOf_99 : decode cX12_pullOf 99 = .ok (.iconst 5, 1) := by decide +kernel
theorem dX12_pullOf_100 : decode cX12_pullOf 100 = .ok (.irem, 1) := by decide +kernel
theorem dX12_pullOf_101 : decode cX12_pullOf 101 = .ok (.iconst 4, 1) := by decide +kernel
theorem dX12_pullOf_102 : decode cX12_pullOf 102 = .ok (.if_icmp .ge 22, 3) := by decide +kernel
theorem dX12_pullOf_105 : decode cX12_pullOf 105 = .ok (.iload_n 2, 1) := by decide +kernel
theorem dX12_pullOf_106 : decode cX12_pullOf 106 = .ok (.aload_n 0, 1) := by decide +kernel
theorem dX12_pullOf_107 : decode cX12_pullOf 107 = .ok (.getfield 21, 3) := by decide +kernel
theorem dX12_pullOf_110 : decode cX12_pullOf 110 = .ok (.iload_n 1, 1) := by decide +kernel
theorem dX12_pullOf_111 : decode cX12_pullOf 111 = .ok (.iaload, 1) := by decide +kernel
theorem dX12_pullOf_112 : decode cX12_pullOf 112 = .ok (.iconst 1, 1) := by decide +kernel
theorem dX12_pullOf_113 : decode cX12_pullOf 113 = .ok (.iadd, 1) := by decide +kernel
theorem dX12_pullOf_114 : decode cX12_pullOf 114 = .ok (.if_icmp .ne 10, 3) := by decide +kernel
theorem dX12_pullOf_117 : decode cX12_pullOf 117 = .ok (.bipush 20, 2) := by decide +kernel
theorem dX12_pullOf_119 : decode cX12_pullOf 119 = .ok (.iload_n 3, 1) := by decide +kernel
theorem dX12_pullOf_120 : decode cX12_pullOf 120 = .ok (.isub, 1) := by decide +kernel
theorem dX12_pullOf_121 : decode cX12_pullOf 121 = .ok (.goto 5, 3) := by decide +kernel
theorem dX12_pullOf_124 : decode cX12_pullOf 124 = .ok (.iload_n 3, 1) := by decide +kernel
theorem dX12_pullOf_125 : decode cX12_pullOf 125 = .ok (.ineg, 1) := by decide +kernel
theorem dX12_pullOf_126 : decode cX12_pullOf 126 = .ok (.ireturn, 1) := by decide +kernel
theorem dX12_pullOf_127 : decode cX12_pullOf 127 = .ok (.iload 4, 2) := by decide +kernel
theorem dX12_pullOf_129 : decode cX12_pullOf 129 = .ok (.aload_n 0, 1) := by decide +kernel
theorem dX12_pullOf_130 : decode cX12_pullOf 130 = .ok (.getfield 27, 3) := by decide +kernel
theorem dX12_pullOf_133 : decode cX12_pullOf 133 = .ok (.iconst 4, 1) := by decide +kernel
theorem dX12_pullOf_134 : decode cX12_pullOf 134 = .ok (.iload_n 1, 1) := by decide +kernel
theorem dX12_pullOf_135 : decode cX12_pullOf 135 = .ok (.imul, 1) := by decide +kernel
theorem dX12_pullOf_136 : decode cX12_pullOf 136 = .ok (.aload_n 0, 1) := by decide +kernel
theorem dX12_pullOf_137 : decode cX12_pullOf 137 = .ok (.getfield 208, 3) := by decide +kernel
theorem dX12_pullOf_140 : decode cX12_pullOf 140 = .ok (.iconst 4, 1) := by decide +kernel
theorem dX12_pullOf_141 : decode cX12_pullOf 141 = .ok (.irem, 1) := by decide +kernel
theorem dX12_pullOf_142 : decode cX12_pullOf 142 = .ok (.iadd, 1) := by decide +kernel
theorem dX12_pullOf_143 : decode cX12_pullOf 143 = .ok (.iaload, 1) := by decide +kernel
theorem dX12_pullOf_144 : decode cX12_pullOf 144 = .ok (.iadd, 1) := by decide +kernel
theorem dX12_pullOf_145 : decode cX12_pullOf 145 = .ok (.ireturn, 1) := by decide +kernel
theorem dX12_pullOf_146 : decode cX12_pullOf 146 = .ok (.iload_n 3, 1) := by decide +kernel
theorem dX12_pullOf_147 : decode cX12_pullOf 147 = .ok (.ireturn, 1) := by decide +kernel
theorem dX12_tread_0 : decode cX12_tread 0 = .ok (.aload_n 0, 1) := by decide +kernel
theorem dX12_tread_1 : decode cX12_tread 1 = .ok (.getfield 15, 3) := by decide +kernel
theorem dX12_tread_4 : decode cX12_tread 4 = .ok (.iload_n 1, 1) := by decide +kernel
theorem dX12_tread_5 : decode cX12_tread 5 = .ok (.iaload, 1) := by decide +kernel
theorem dX12_tread_6 : decode cX12_tread 6 = .ok (.tableswitch 45 1 6 #[38, 40, 42, 38, 45, 42], 38) := by decide +kernel
theorem dX12_tread_44 : decode cX12_tread 44 = .ok (.iconst 3, 1) := by decide +kernel
theorem dX12_tread_45 : decode cX12_tread 45 = .ok (.ireturn, 1) := by decide +kernel
theorem dX12_tread_46 : decode cX12_tread 46 = .ok (.iconst 1, 1) := by decide +kernel
theorem dX12_tread_47 : decode cX12_tread 47 = .ok (.ireturn, 1) := by decide +kernel
theorem dX12_tread_48 : decode cX12_tread 48 = .ok (.bipush 6, 2) := by decide +kernel
theorem dX12_tread_50 : decode cX12_tread 50 = .ok (.ireturn, 1) := by decide +kernel
theorem dX12_tread_51 : decode cX12_tread 51 = .ok (.iconst 2, 1) := by decide +kernel
theorem dX12_tread_52 : decode cX12_tread 52 = .ok (.ireturn, 1) := by decide +kernel
theorem dX12_isBald_0 : decode cX12_isBald 0 = .ok (.aload_n 0, 1) := by decide +kernel
theorem dX12_isBald_1 : decode cX12_isBald 1 = .ok (.getfield 9, 3) := by decide +kernel
theorem dX12_isBald_4 : decode cX12_isBald 4 = .ok (.iload_n 1, 1) := by decide +kernel
theorem dX12_isBald_5 : decode cX12_isBald 5 = .ok (.iaload, 1) := by decide +kernel
theorem dX12_isBald_6 : decode cX12_isBald 6 = .ok (.aload_n 0, 1) := by decide +kernel
theorem dX12_isBald_7 : decode cX12_isBald 7 = .ok (.invokevirtual 221, 3) := by decide +kernel
theorem dX12_isBald_10 : decode cX12_isBald 10 = .ok (.if_icmp .lt 7, 3) := by decide +kernel
theorem dX12_isBald_13 : decode cX12_isBald 13 = .ok (.iconst 1, 1) := by decide +kernel
theorem dX12_isBald_14 : decode cX12_isBald 14 = .ok (.goto 4, 3) := by decide +kernel
theorem dX12_isBald_17 : decode cX12_isBald 17 = .ok (.iconst 0, 1) := by decide +kernel
theorem dX12_isBald_18 : decode cX12_isBald 18 = .ok (.ireturn, 1) := by decide +kernel
theorem dX12_next_0 : decode cX12_next 0 = .ok (.iload_n 1, 1) := by decide +kernel
theorem dX12_next_1 : decode cX12_next 1 = .ok (.tableswitch 69 0 2 #[27, 40, 55], 27) := by decide +kernel
theorem dX12_next_28 : decode cX12_next 28 = .ok (.iload_n 0, 1) := by decide +kernel
theorem dX12_next_29 : decode cX12_next 29 = .ok (.iconst 5, 1) := by decide +kernel
theorem dX12_next_30 : decode cX12_next 30 = .ok (.if_icmp .ge 7, 3) := by decide +kernel
theorem dX12_next_33 : decode cX12_next 33 = .ok (.iconst (-1), 1) := by decide +kernel
theorem dX12_next_34 : decode cX12_next 34 = .ok (.goto 6, 3) := by decide +kernel
theorem dX12_next_37 : decode cX12_next 37 = .ok (.iload_n 0, 1) := by decide +kernel
theorem dX12_next_38 : decode cX12_next 38 = .ok (.iconst 5, 1) := by decide +kernel
theorem dX12_next_39 : decode cX12_next 39 = .ok (.isub, 1) := by decide +kernel
theorem dX12_next_40 : decode cX12_next 40 = .ok (.ireturn, 1) := by decide +kernel
theorem dX12_next_41 : decode cX12_next 41 = .ok (.iload_n 0, 1) := by decide +kernel
theorem dX12_next_42 : decode cX12_next 42 = .ok (.iconst 5, 1) := by decide +kernel
theorem dX12_next_43 : decode cX12_next 43 = .ok (.irem, 1) := by decide +kernel
theorem dX12_next_44 : decode cX12_next 44 = .ok (.iconst 4, 1) := by decide +kernel
theorem dX12_next_45 : decode cX12_next 45 = .ok (.if_icmp .ne 7, 3) := by decide +kernel
theorem dX12_next_48 : decode cX12_next 48 = .ok (.iconst (-1), 1) := by decide +kernel
theorem dX12_next_49 : decode cX12_next 49 = .ok (.goto 6, 3) := by decide +kernel
theorem dX12_next_52 : decode cX12_next 52 = .ok (.iload_n 0, 1) := by decide +kernel
theorem dX12_next_53 : decode cX12_next 53 = .ok (.iconst 1, 1) := by decide +kernel
theorem dX12_next_54 : decode cX12_next 54 = .ok (.iadd, 1) := by decide +kernel
theorem dX12_next_55 : decode cX12_next 55 = .ok (.ireturn, 1) := by decide +kernel
theorem dX12_next_56 : decode cX12_next 56 = .ok (.iload_n 0, 1) := by decide +kernel
theorem dX12_next_57 : decode cX12_next 57 = .ok (.bipush 19, 2) := by decide +kernel
theorem dX12_next_59 : decode cX12_next 59 = .ok (.if_icmp .le 7, 3) := by decide +kernel
theorem dX12_next_62 : decode cX12_next 62 = .ok (.iconst (-1), 1) := by decide +kernel
theorem dX12_next_63 : decode cX12_next 63 = .ok (.goto 6, 3) := by decide +kernel
theorem dX12_next_66 : decode cX12_next 66 = .ok (.iload_n 0, 1) := by decide +kernel
theorem dX12_next_67 : decode cX12_next 67 = .ok (.iconst 5, 1) := by decide +kernel
theorem dX12_next_68 : decode cX12_next 68 = .ok (.iadd, 1) := by decide +kernel
theorem dX12_next_69 : decode cX12_next 69 = .ok (.ireturn, 1) := by decide +kernel
theorem dX12_next_70 : decode cX12_next 70 = .ok (.iload_n 0, 1) := by decide +kernel
theorem dX12_next_71 : decode cX12_next 71 = .ok (.iconst 5, 1) := by decide +kernel
theorem dX12_next_72 : decode cX12_next 72 = .ok (.irem, 1) := by decide +kernel
theorem dX12_next_73 : decode cX12_next 73 = .ok (.ifCond .ne 7, 3) := by decide +kernel
theorem dX12_next_76 : decode cX12_next 76 = .ok (.iconst (-1), 1) := by decide +kernel
theorem dX12_next_77 : decode cX12_next 77 = .ok (.goto 6, 3) := by decide +kernel
theorem dX12_next_80 : decode cX12_next 80 = .ok (.iload_n 0, 1) := by decide +kernel
theorem dX12_next_81 : decode cX12_next 81 = .ok (.iconst 1, 1) := by decide +kernel
theorem dX12_next_82 : decode cX12_next 82 = .ok (.isub, 1) := by decide +kernel
theorem dX12_next_83 : decode cX12_next 83 = .ok (.ireturn, 1) := by decide +kernel
theorem dX12_sent_0 : decode cX12_sent 0 = .ok (.aload_n 0, 1) := by decide +kernel
theorem dX12_sent_1 : decode cX12_sent 1 = .ok (.getfield 21, 3) := by decide +kernel
theorem dX12_sent_4 : decode cX12_sent 4 = .ok (.iload_n 1, 1) := by decide +kernel
theorem dX12_sent_5 : decode cX12_sent 5 = .ok (.iaload, 1) := by decide +kernel
theorem dX12_sent_6 : decode cX12_sent 6 = .ok (.istore_n 2, 1) := by decide +kernel
theorem dX12_sent_7 : decode cX12_sent 7 = .ok (.iconst 0, 1) := by decide +kernel
theorem dX12_sent_8 : decode cX12_sent 8 = .ok (.istore_n 3, 1) := by decide +kernel
theorem dX12_sent_9 : decode cX12_sent 9 = .ok (.iconst 0, 1) := by decide +kernel
theorem dX12_sent_10 : decode cX12_sent 10 = .ok (.istore 4, 2) := by decide +kernel
theorem dX12_sent_12 : decode cX12_sent 12 = .ok (.iload 4, 2) := by decide +kernel
theorem dX12_sent_14 : decode cX12_sent 14 = .ok (.iconst 4, 1) := by decide +kernel
theorem dX12_sent_15 : decode cX12_sent 15 = .ok (.if_icmp .ge 74, 3) := by decide +kernel
theorem dX12_sent_18 : decode cX12_sent 18 = .ok (.aload_n 0, 1) := by decide +kernel
theorem dX12_sent_19 : decode cX12_sent 19 = .ok (.getfield 21, 3) := by decide +kernel
theorem dX12_sent_22 : decode cX12_sent 22 = .ok (.iload_n 1, 1) := by decide +kernel
theorem dX12_sent_23 : decode cX12_sent 23 = .ok (.iaload, 1) := by decide +kernel
theorem dX12_sent_24 : decode cX12_sent 24 = .ok (.iload 4, 2) := by decide +kernel
theorem dX12_sent_26 : decode cX12_sent 26 = .ok (.invokestatic 224, 3) := by decide +kernel
theorem dX12_sent_29 : decode cX12_sent 29 = .ok (.istore 5, 2) := by decide +kernel
theorem dX12_sent_31 : decode cX12_sent 31 = .ok (.iload 5, 2) := by decide +kernel
theorem dX12_sent_33 : decode cX12_sent 33 = .ok (.iconst (-1), 1) := by decide +kernel
theorem dX12_sent_34 : decode cX12_sent 34 = .ok (.if_icmp .eq 49, 3) := by decide +kernel
theorem dX12_sent_37 : decode cX12_sent 37 = .ok (.aload_n 0, 1) := by decide +kernel
theorem dX12_sent_38 : decode cX12_sent 38 = .ok (.iload 5, 2) := by decide +kernel
theorem dX12_sent_40 : decode cX12_sent 40 = .ok (.invokevirtual 227, 3) := by decide +kernel
theorem dX12_sent_43 : decode cX12_sent 43 = .ok (.ifCond .eq 6, 3) := by decide +kernel
theorem dX12_sent_46 : decode cX12_sent 46 = .ok (.goto 37, 3) := by decide +kernel
theorem dX12_sent_49 : decode cX12_sent 49 = .ok (.aload_n 0, 1) := by decide +kernel
theorem dX12_sent_50 : decode cX12_sent 50 = .ok (.iload_n 1, 1) := by decide +kernel
theorem dX12_sent_51 : decode cX12_sent 51 = .ok (.iload 5, 2) := by decide +kernel
theorem dX12_sent_53 : decode cX12_sent 53 = .ok (.invokevirtual 126, 3) := by decide +kernel
theorem dX12_sent_56 : decode cX12_sent 56 = .ok (.istore 6, 2) := by decide +kernel
theorem dX12_sent_58 : decode cX12_sent 58 = .ok (.iload_n 2, 1) := by decide +kernel
theorem dX12_sent_59 : decode cX12_sent 59 = .ok (.aload_n 0, 1) := by decide +kernel
theorem dX12_sent_60 : decode cX12_sent 60 = .ok (.getfield 21, 3) := by decide +kernel
theorem dX12_sent_63 : decode cX12_sent 63 = .ok (.iload_n 1, 1) := by decide +kernel
theorem dX12_sent_64 : decode cX12_sent 64 = .ok (.iaload, 1) := by decide +kernel
theorem dX12_sent_65 : decode cX12_sent 65 = .ok (.if_icmp .eq 12, 3) := by decide +kernel
theorem dX12_sent_68 : decode cX12_sent 68 = .ok (.iload 6, 2) := by decide +kernel
theorem dX12_sent_70 : decode cX12_sent 70 = .ok (.iload_n 3, 1) := by decide +kernel
theorem dX12_sent_71 : decode cX12_sent 71 = .ok (.if_icmp .gt 6, 3) := by decide +kernel
theorem dX12_sent_74 : decode cX12_sent 74 = .ok (.goto 9, 3) := by decide +kernel
theorem dX12_sent_77 : decode cX12_sent 77 = .ok (.iload 6, 2) := by decide +kernel
theorem dX12_sent_79 : decode cX12_sent 79 = .ok (.istore_n 3, 1) := by decide +kernel
theorem dX12_sent_80 : decode cX12_sent 80 = .ok (.iload 5, 2) := by decide +kernel
theorem dX12_sent_82 : decode cX12_sent 82 = .ok (.istore_n 2, 1) := by decide +kernel
theorem dX12_sent_83 : decode cX12_sent 83 = .ok (.iinc 4 1, 3) := by decide +kernel
theorem dX12_sent_86 : decode cX12_sent 86 = .ok (.goto (-74), 3) := by decide +kernel
theorem dX12_sent_89 : decode cX12_sent 89 = .ok (.iload_n 2, 1) := by decide +kernel
theorem dX12_sent_90 : decode cX12_sent 90 = .ok (.ireturn, 1) := by decide +kernel
theorem dX12_held_0 : decode cX12_held 0 = .ok (.iconst 0, 1) := by decide +kernel
theorem dX12_held_1 : decode cX12_held 1 = .ok (.bipush 99, 2) := by decide +kernel
theorem dX12_held_3 : decode cX12_held 3 = .ok (.iload_n 0, 1) := by decide +kernel
theorem dX12_held_4 : decode cX12_held 4 = .ok (.invokestatic 230, 3) := by decide +kernel
theorem dX12_held_7 : decode cX12_held 7 = .ok (.invokestatic 235, 3) := by decide +kernel
theorem dX12_held_10 : decode cX12_held 10 = .ok (.ireturn, 1) := by decide +kernel
theorem dX12_goesHour_0 : decode cX12_goesHour 0 = .ok (.iconst 0, 1) := by decide +kernel
theorem dX12_goesHour_1 : decode cX12_goesHour 1 = .ok (.istore_n 1, 1) := by decide +kernel
theorem dX12_goesHour_2 : decode cX12_goesHour 2 = .ok (.iload_n 1, 1) := by decide +kernel
theorem dX12_goesHour_3 : decode cX12_goesHour 3 = .ok (.aload_n 0, 1) := by decide +kernel
theorem dX12_goesHour_4 : decode cX12_goesHour 4 = .ok (.getfield 105, 3) := by decide +kernel
theorem dX12_goesHour_7 : decode cX12_goesHour 7 = .ok (.if_icmp .ge 64, 3) := by decide +kernel
theorem dX12_goesHour_10 : decode cX12_goesHour 10 = .ok (.aload_n 0, 1) := by decide +kernel
theorem dX12_goesHour_11 : decode cX12_goesHour 11 = .ok (.getfield 24, 3) := by decide +kernel
theorem dX12_goesHour_14 : decode cX12_goesHour 14 = .ok (.iload_n 1, 1) := by decide +kernel
theorem dX12_goesHour_15 : decode cX12_goesHour 15 = .ok (.iaload, 1) := by decide +kernel
theorem dX12_goesHour_16 : decode cX12_goesHour 16 = .ok (.iconst 1, 1) := by decide +kernel
theorem dX12_goesHour_17 : decode cX12_goesHour 17 = .ok (.if_icmp .ne 6, 3) := by decide +kernel
theorem dX12_goesHour_20 : decode cX12_goesHour 20 = .ok (.goto 45, 3) := by decide +kernel
theorem dX12_goesHour_23 : decode cX12_goesHour 23 = .ok (.aload_n 0, 1) := by decide +kernel
theorem dX12_goesHour_24 : decode cX12_goesHour 24 = .ok (.getfield 21, 3) := by decide +kernel
theorem dX12_goesHour_27 : decode cX12_goesHour 27 = .ok (.iload_n 1, 1) := by decide +kernel
theorem dX12_goesHour_28 : decode cX12_goesHour 28 = .ok (.aload_n 0, 1) := by decide +kernel
theorem dX12_goesHour_29 : decode cX12_goesHour 29 = .ok (.iload_n 1, 1) := by decide +kernel
theorem dX12_goesHour_30 : decode cX12_goesHour 30 = .ok (.invokevirtual 119, 3) := by decide +kernel
theorem dX12_goesHour_33 : decode cX12_goesHour 33 = .ok (.iastore, 1) := by decide +kernel
theorem dX12_goesHour_34 : decode cX12_goesHour 34 = .ok (.aload_n 0, 1) := by decide +kernel
theorem dX12_goesHour_35 : decode cX12_goesHour 35 = .ok (.getfield 9, 3) := by decide +kernel
theorem dX12_goesHour_38 : decode cX12_goesHour 38 = .ok (.aload_n 0, 1) := by decide +kernel
theorem dX12_goesHour_39 : decode cX12_goesHour 39 = .ok (.getfield 21, 3) := by decide +kernel
theorem dX12_goesHour_42 : decode cX12_goesHour 42 = .ok (.iload_n 1, 1) := by decide +kernel
theorem dX12_goesHour_43 : decode cX12_goesHour 43 = .ok (.iaload, 1) := by decide +kernel
theorem dX12_goesHour_44 : decode cX12_goesHour 44 = .ok (.aload_n 0, 1) := by decide +kernel
theorem dX12_goesHour_45 : decode cX12_goesHour 45 = .ok (.getfield 9, 3) := by decide +kernel
theorem dX12_goesHour_48 : decode cX12_goesHour 48 = .ok (.aload_n 0, 1) := by decide +kernel
theorem dX12_goesHour_49 : decode cX12_goesHour 49 = .ok (.getfield 21, 3) := by decide +kernel
theorem dX12_goesHour_52 : decode cX12_goesHour 52 = .ok (.iload_n 1, 1) := by decide +kernel
theorem dX12_goesHour_53 : decode cX12_goesHour 53 = .ok (.iaload, 1) := by decide +kernel
theorem dX12_goesHour_54 : decode cX12_goesHour 54 = .ok (.iaload, 1) := by decide +kernel
theorem dX12_goesHour_55 : decode cX12_goesHour 55 = .ok (.aload_n 0, 1) := by decide +kernel
theorem dX12_goesHour_56 : decode cX12_goesHour 56 = .ok (.iload_n 1, 1) := by decide +kernel
theorem dX12_goesHour_57 : decode cX12_goesHour 57 = .ok (.invokevirtual 123, 3) := by decide +kernel
theorem dX12_goesHour_60 : decode cX12_goesHour 60 = .ok (.iadd, 1) := by decide +kernel
theorem dX12_goesHour_61 : decode cX12_goesHour 61 = .ok (.invokestatic 238, 3) := by decide +kernel
theorem dX12_goesHour_64 : decode cX12_goesHour 64 = .ok (.iastore, 1) := by decide +kernel
theorem dX12_goesHour_65 : decode cX12_goesHour 65 = .ok (.iinc 1 1, 3) := by decide +kernel
theorem dX12_goesHour_68 : decode cX12_goesHour 68 = .ok (.goto (-66), 3) := by decide +kernel
theorem dX12_goesHour_71 : decode cX12_goesHour 71 = .ok (.aload_n 0, 1) := by decide +kernel
theorem dX12_goesHour_72 : decode cX12_goesHour 72 = .ok (.dup, 1) := by decide +kernel
theorem dX12_goesHour_73 : decode cX12_goesHour 73 = .ok (.getfield 208, 3) := by decide +kernel
theorem dX12_goesHour_76 : decode cX12_goesHour 76 = .ok (.iconst 1, 1) := by decide +kernel
theorem dX12_goesHour_77 : decode cX12_goesHour 77 = .ok (.iadd, 1) := by decide +kernel
theorem dX12_goesHour_78 : decode cX12_goesHour 78 = .ok (.putfield 208, 3) := by decide +kernel
theorem dX12_goesHour_81 : decode cX12_goesHour 81 = .ok (.aload_n 0, 1) := by decide +kernel
theorem dX12_goesHour_82 : decode cX12_goesHour 82 = .ok (.getfield 208, 3) := by decide +kernel
theorem dX12_goesHour_85 : decode cX12_goesHour 85 = .ok (.bipush 10, 2) := by decide +kernel
theorem dX12_goesHour_87 : decode cX12_goesHour 87 = .ok (.irem, 1) := by decide +kernel
theorem dX12_goesHour_88 : decode cX12_goesHour 88 = .ok (.ifCond .ne 34, 3) := by decide +kernel
theorem dX12_goesHour_91 : decode cX12_goesHour 91 = .ok (.iconst 0, 1) := by decide +kernel
theorem dX12_goesHour_92 : decode cX12_goesHour 92 = .ok (.istore_n 1, 1) := by decide +kernel
theorem dX12_goesHour_93 : decode cX12_goesHour 93 = .ok (.iload_n 1, 1) := by decide +kernel
theorem dX12_goesHour_94 : decode cX12_goesHour 94 = .ok (.bipush 25, 2) := by decide +kernel
theorem dX12_goesHour_96 : decode cX12_goesHour 96 = .ok (.if_icmp .ge 26, 3) := by decide +kernel
theorem dX12_goesHour_99 : decode cX12_goesHour 99 = .ok (.aload_n 0, 1) := by decide +kernel
theorem dX12_goesHour_100 : decode cX12_goesHour 100 = .ok (.getfield 9, 3) := by decide +kernel
theorem dX12_goesHour_103 : decode cX12_goesHour 103 = .ok (.iload_n 1, 1) := by decide +kernel
theorem dX12_goesHour_104 : decode cX12_goesHour 104 = .ok (.aload_n 0, 1) := by decide +kernel
theorem dX12_goesHour_105 : decode cX12_goesHour 105 = .ok (.getfield 9, 3) := by decide +kernel
theorem dX12_goesHour_108 : decode cX12_goesHour 108 = .ok (.iload_n 1, 1) := by decide +kernel
theorem dX12_goesHour_109 : decode cX12_goesHour 109 = .ok (.iaload, 1) := by decide +kernel
theorem dX12_goesHour_110 : decode cX12_goesHour 110 = .ok (.iconst 1, 1) := by decide +kernel
theorem dX12_goesHour_111 : decode cX12_goesHour 111 = .ok (.isub, 1) := by decide +kernel
theorem dX12_goesHour_112 : decode cX12_goesHour 112 = .ok (.invokestatic 238, 3) := by decide +kernel
theorem dX12_goesHour_115 : decode cX12_goesHour 115 = .ok (.iastore, 1) := by decide +kernel
theorem dX12_goesHour_116 : decode cX12_goesHour 116 = .ok (.iinc 1 1, 3) := by decide +kernel
theorem dX12_goesHour_119 : decode cX12_goesHour 119 = .ok (.goto (-26), 3) := by decide +kernel
theorem dX12_goesHour_122 : decode cX12_goesHour 122 = .ok (.return_, 1) := by decide +kernel
theorem dX12_balds_0 : decode cX12_balds 0 = .ok (.iconst 0, 1) := by decide +kernel
theorem dX12_balds_1 : decode cX12_balds 1 = .ok (.istore_n 1, 1) := by decide +kernel
theorem dX12_balds_2 : decode cX12_balds 2 = .ok (.iconst 0, 1) := by decide +kernel
theorem dX12_balds_3 : decode cX12_balds 3 = .ok (.istore_n 2, 1) := by decide +kernel
theorem dX12_balds_4 : decode cX12_balds 4 = .ok (.iload_n 2, 1) := by decide +kernel
theorem dX12_balds_5 : decode cX12_balds 5 = .ok (.bipush 25, 2) := by decide +kernel
theorem dX12_balds_7 : decode cX12_balds 7 = .ok (.if_icmp .ge 20, 3) := by decide +kernel
theorem dX12_balds_10 : decode cX12_balds 10 = .ok (.aload_n 0, 1) := by decide +kernel
theorem dX12_balds_11 : decode cX12_balds 11 = .ok (.iload_n 2, 1) := by decide +kernel
theorem dX12_balds_12 : decode cX12_balds 12 = .ok (.invokevirtual 227, 3) := by decide +kernel
theorem dX12_balds_15 : decode cX12_balds 15 = .ok (.ifCond .eq 6, 3) := by decide +kernel
theorem dX12_balds_18 : decode cX12_balds 18 = .ok (.iinc 1 1, 3) := by decide +kernel
theorem dX12_balds_21 : decode cX12_balds 21 = .ok (.iinc 2 1, 3) := by decide +kernel
theorem dX12_balds_24 : decode cX12_balds 24 = .ok (.goto (-20), 3) := by decide +kernel
theorem dX12_balds_27 : decode cX12_balds 27 = .ok (.iload_n 1, 1) := by decide +kernel
theorem dX12_balds_28 : decode cX12_balds 28 = .ok (.ireturn, 1) := by decide +kernel
theorem dX12_allWear_0 : decode cX12_allWear 0 = .ok (.iconst 0, 1) := by decide +kernel
theorem dX12_allWear_1 : decode cX12_allWear 1 = .ok (.istore_n 1, 1) := by decide +kernel
theorem dX12_allWear_2 : decode cX12_allWear 2 = .ok (.iconst 0, 1) := by decide +kernel
theorem dX12_allWear_3 : decode cX12_allWear 3 = .ok (.istore_n 2, 1) := by decide +kernel
theorem dX12_allWear_4 : decode cX12_allWear 4 = .ok (.iload_n 2, 1) := by decide +kernel
theorem dX12_allWear_5 : decode cX12_allWear 5 = .ok (.bipush 25, 2) := by decide +kernel
theorem dX12_allWear_7 : decode cX12_allWear 7 = .ok (.if_icmp .ge 18, 3) := by decide +kernel
theorem dX12_allWear_10 : decode cX12_allWear 10 = .ok (.iload_n 1, 1) := by decide +kernel
theorem dX12_allWear_11 : decode cX12_allWear 11 = .ok (.aload_n 0, 1) := by decide +kernel
theorem dX12_allWear_12 : decode cX12_allWear 12 = .ok (.getfield 9, 3) := by decide +kernel
theorem dX12_allWear_15 : decode cX12_allWear 15 = .ok (.iload_n 2, 1) := by decide +kernel
theorem dX12_allWear_16 : decode cX12_allWear 16 = .ok (.iaload, 1) := by decide +kernel
theorem dX12_allWear_17 : decode cX12_allWear 17 = .ok (.iadd, 1) := by decide +kernel
theorem dX12_allWear_18 : decode cX12_allWear 18 = .ok (.istore_n 1, 1) := by decide +kernel
theorem dX12_allWear_19 : decode cX12_allWear 19 = .ok (.iinc 2 1, 3) := by decide +kernel
theorem dX12_allWear_22 : decode cX12_allWear 22 = .ok (.goto (-18), 3) := by decide +kernel
theorem dX12_allWear_25 : decode cX12_allWear 25 = .ok (.iload_n 1, 1) := by decide +kernel
theorem dX12_allWear_26 : decode cX12_allWear 26 = .ok (.ireturn, 1) := by decide +kernel
theorem dX12_beating_0 : decode cX12_beating 0 = .ok (.iconst 0, 1) := by decide +kernel
theorem dX12_beating_1 : decode cX12_beating 1 = .ok (.istore_n 1, 1) := by decide +kernel
theorem dX12_beating_2 : decode cX12_beating 2 = .ok (.iconst 0, 1) := by decide +kernel
theorem dX12_beating_3 : decode cX12_beating 3 = .ok (.istore_n 2, 1) := by decide +kernel
theorem dX12_beating_4 : decode cX12_beating 4 = .ok (.iload_n 2, 1) := by decide +kernel
theorem dX12_beating_5 : decode cX12_beating 5 = .ok (.bipush 25, 2) := by decide +kernel
theorem dX12_beating_7 : decode cX12_beating 7 = .ok (.if_icmp .ge 20, 3) := by decide +kernel
theorem dX12_beating_10 : decode cX12_beating 10 = .ok (.iload_n 1, 1) := by decide +kernel
theorem dX12_beating_11 : decode cX12_beating 11 = .ok (.aload_n 0, 1) := by decide +kernel
theorem dX12_beating_12 : decode cX12_beating 12 = .ok (.getfield 9, 3) := by decide +kernel
theorem dX12_beating_15 : decode cX12_beating 15 = .ok (.iload_n 2, 1) := by decide +kernel
theorem dX12_beating_16 : decode cX12_beating 16 = .ok (.iaload, 1) := by decide +kernel
theorem dX12_beating_17 : decode cX12_beating 17 = .ok (.invokestatic 235, 3) := by decide +kernel
theorem dX12_beating_20 : decode cX12_beating 20 = .ok (.istore_n 1, 1) := by decide +kernel
theorem dX12_beating_21 : decode cX12_beating 21 = .ok (.iinc 2 1, 3) := by decide +kernel
theorem dX12_beating_24 : decode cX12_beating 24 = .ok (.goto (-20), 3) := by decide +kernel
theorem dX12_beating_27 : decode cX12_beating 27 = .ok (.iconst 0, 1) := by decide +kernel
theorem dX12_beating_28 : decode cX12_beating 28 = .ok (.istore_n 2, 1) := by decide +kernel
theorem dX12_beating_29 : decode cX12_beating 29 = .ok (.iload_n 2, 1) := by decide +kernel
theorem dX12_beating_30 : decode cX12_beating 30 = .ok (.bipush 99, 2) := by decide +kernel
theorem dX12_beating_32 : decode cX12_beating 32 = .ok (.if_icmp .gt 24, 3) := by decide +kernel
theorem dX12_beating_35 : decode cX12_beating 35 = .ok (.iload_n 1, 1) := by decide +kernel
theorem dX12_beating_36 : decode cX12_beating 36 = .ok (.iload_n 2, 1) := by decide +kernel
theorem dX12_beating_37 : decode cX12_beating 37 = .ok (.isub, 1) := by decide +kernel
theorem dX12_beating_38 : decode cX12_beating 38 = .ok (.invokestatic 238, 3) := by decide +kernel
theorem dX12_beating_41 : decode cX12_beating 41 = .ok (.aload_n 0, 1) := by decide +kernel
theorem dX12_beating_42 : decode cX12_beating 42 = .ok (.invokevirtual 221, 3) := by decide +kernel
theorem dX12_beating_45 : decode cX12_beating 45 = .ok (.if_icmp .ge 5, 3) := by decide +kernel
theorem dX12_beating_48 : decode cX12_beating 48 = .ok (.iload_n 2, 1) := by decide +kernel
theorem dX12_beating_49 : decode cX12_beating 49 = .ok (.ireturn, 1) := by decide +kernel
theorem dX12_beating_50 : decode cX12_beating 50 = .ok (.iinc 2 1, 3) := by decide +kernel
theorem dX12_beating_53 : decode cX12_beating 53 = .ok (.goto (-24), 3) := by decide +kernel
theorem dX12_beating_56 : decode cX12_beating 56 = .ok (.bipush (-5), 2) := by decide +kernel
theorem dX12_beating_58 : decode cX12_beating 58 = .ok (.ireturn, 1) := by decide +kernel
theorem dX12_told_0 : decode cX12_told 0 = .ok (.iload_n 1, 1) := by decide +kernel
theorem dX12_told_1 : decode cX12_told 1 = .ok (.bipush 10, 2) := by decide +kernel
theorem dX12_told_3 : decode cX12_told 3 = .ok (.isub, 1) := by decide +kernel
theorem dX12_told_4 : decode cX12_told 4 = .ok (.invokestatic 112, 3) := by decide +kernel
theorem dX12_told_7 : decode cX12_told 7 = .ok (.ifCond .eq 13, 3) := by decide +kernel
theorem dX12_told_10 : decode cX12_told 10 = .ok (.aload_n 0, 1) := by decide +kernel
theorem dX12_told_11 : decode cX12_told 11 = .ok (.getfield 9, 3) := by decide +kernel
theorem dX12_told_14 : decode cX12_told 14 = .ok (.iload_n 1, 1) := by decide +kernel
theorem dX12_told_15 : decode cX12_told 15 = .ok (.bipush 10, 2) := by decide +kernel
theorem dX12_told_17 : decode cX12_told 17 = .ok (.isub, 1) := by decide +kernel
theorem dX12_told_18 : decode cX12_told 18 = .ok (.iaload, 1) := by decide +kernel
theorem dX12_told_19 : decode cX12_told 19 = .ok (.ireturn, 1) := by decide +kernel
theorem dX12_told_20 : decode cX12_told 20 = .ok (.iload_n 1, 1) := by decide +kernel
theorem dX12_told_21 : decode cX12_told 21 = .ok (.tableswitch 60 0 4 #[35, 40, 45, 50, 55], 35) := by decide +kernel
theorem dX12_told_56 : decode cX12_told 56 = .ok (.aload_n 0, 1) := by decide +kernel
theorem dX12_told_57 : decode cX12_told 57 = .ok (.getfield 208, 3) := by decide +kernel
theorem dX12_told_60 : decode cX12_told 60 = .ok (.ireturn, 1) := by decide +kernel
theorem dX12_told_61 : decode cX12_told 61 = .ok (.aload_n 0, 1) := by decide +kernel
theorem dX12_told_62 : decode cX12_told 62 = .ok (.invokevirtual 221, 3) := by decide +kernel
theorem dX12_told_65 : decode cX12_told 65 = .ok (.ireturn, 1) := by decide +kernel
theorem dX12_told_66 : decode cX12_told 66 = .ok (.aload_n 0, 1) := by decide +kernel
theorem dX12_told_67 : decode cX12_told 67 = .ok (.invokevirtual 241, 3) := by decide +kernel
theorem dX12_told_70 : decode cX12_told 70 = .ok (.ireturn, 1) := by decide +kernel
theorem dX12_told_71 : decode cX12_told 71 = .ok (.aload_n 0, 1) := by decide +kernel
theorem dX12_told_72 : decode cX12_told 72 = .ok (.invokevirtual 244, 3) := by decide +kernel
theorem dX12_told_75 : decode cX12_told 75 = .ok (.ireturn, 1) := by decide +kernel
theorem dX12_told_76 : decode cX12_told 76 = .ok (.aload_n 0, 1) := by decide +kernel
theorem dX12_told_77 : decode cX12_told 77 = .ok (.invokevirtual 247, 3) := by decide +kernel
theorem dX12_told_80 : decode cX12_told 80 = .ok (.ireturn, 1) := by decide +kernel
theorem dX12_told_81 : decode cX12_told 81 = .ok (.iconst (-1), 1) := by decide +kernel
theorem dX12_told_82 : decode cX12_told 82 = .ok (.ireturn, 1) := by decide +kernel
theorem dX12_pass_0 : decode cX12_pass 0 = .ok (.iload_n 1, 1) := by decide +kernel
theorem dX12_pass_1 : decode cX12_pass 1 = .ok (.iconst 0, 1) := by decide +kernel
theorem dX12_pass_2 : decode cX12_pass 2 = .ok (.bipush 60, 2) := by decide +kernel
theorem dX12_pass_4 : decode cX12_pass 4 = .ok (.invokestatic 108, 3) := by decide +kernel
theorem dX12_pass_7 : decode cX12_pass 7 = .ok (.ifCond .ne 6, 3) := by decide +kernel
theorem dX12_pass_10 : decode cX12_pass 10 = .ok (.bipush (-2), 2) := by decide +kernel
theorem dX12_pass_12 : decode cX12_pass 12 = .ok (.ireturn, 1) := by decide +kernel
theorem dX12_pass_13 : decode cX12_pass 13 = .ok (.aload_n 0, 1) := by decide +kernel
theorem dX12_pass_14 : decode cX12_pass 14 = .ok (.getfield 208, 3) := by decide +kernel
theorem dX12_pass_17 : decode cX12_pass 17 = .ok (.iload_n 1, 1) := by decide +kernel
theorem dX12_pass_18 : decode cX12_pass 18 = .ok (.iadd, 1) := by decide +kernel
theorem dX12_pass_19 : decode cX12_pass 19 = .ok (.sipush 9999, 3) := by decide +kernel
theorem dX12_pass_22 : decode cX12_pass 22 = .ok (.if_icmp .le 6, 3) := by decide +kernel
theorem dX12_pass_25 : decode cX12_pass 25 = .ok (.bipush (-3), 2) := by decide +kernel
theorem dX12_pass_27 : decode cX12_pass 27 = .ok (.ireturn, 1) := by decide +kernel
theorem dX12_pass_28 : decode cX12_pass 28 = .ok (.iconst 0, 1) := by decide +kernel
theorem dX12_pass_29 : decode cX12_pass 29 = .ok (.istore_n 2, 1) := by decide +kernel
theorem dX12_pass_30 : decode cX12_pass 30 = .ok (.iload_n 2, 1) := by decide +kernel
theorem dX12_pass_31 : decode cX12_pass 31 = .ok (.iload_n 1, 1) := by decide +kernel
theorem dX12_pass_32 : decode cX12_pass 32 = .ok (.if_icmp .ge 13, 3) := by decide +kernel
theorem dX12_pass_35 : decode cX12_pass 35 = .ok (.aload_n 0, 1) := by decide +kernel
theorem dX12_pass_36 : decode cX12_pass 36 = .ok (.invokevirtual 250, 3) := by decide +kernel
theorem dX12_pass_39 : decode cX12_pass 39 = .ok (.iinc 2 1, 3) := by decide +kernel
theorem dX12_pass_42 : decode cX12_pass 42 = .ok (.goto (-12), 3) := by decide +kernel
theorem dX12_pass_45 : decode cX12_pass 45 = .ok (.aload_n 0, 1) := by decide +kernel
theorem dX12_pass_46 : decode cX12_pass 46 = .ok (.getfield 208, 3) := by decide +kernel
theorem dX12_pass_49 : decode cX12_pass 49 = .ok (.ireturn, 1) := by decide +kernel
theorem dX12_on_0 : decode cX12_on 0 = .ok (.iload_n 2, 1) := by decide +kernel
theorem dX12_on_1 : decode cX12_on 1 = .ok (.ifCond .eq 26, 3) := by decide +kernel
theorem dX12_on_4 : decode cX12_on 4 = .ok (.iload_n 2, 1) := by decide +kernel
theorem dX12_on_5 : decode cX12_on 5 = .ok (.bipush 10, 2) := by decide +kernel
theorem dX12_on_7 : decode cX12_on 7 = .ok (.isub, 1) := by decide +kernel
theorem dX12_on_8 : decode cX12_on 8 = .ok (.invokestatic 112, 3) := by decide +kernel
theorem dX12_on_11 : decode cX12_on 11 = .ok (.ifCond .ne 16, 3) := by decide +kernel
theorem dX12_on_14 : decode cX12_on 14 = .ok (.aload_n 0, 1) := by decide +kernel
theorem dX12_on_15 : decode cX12_on 15 = .ok (.iload_n 2, 1) := by decide +kernel
theorem dX12_on_16 : decode cX12_on 16 = .ok (.bipush 40, 2) := by decide +kernel
theorem dX12_on_18 : decode cX12_on 18 = .ok (.isub, 1) := by decide +kernel
theorem dX12_on_19 : decode cX12_on 19 = .ok (.invokevirtual 116, 3) := by decide +kernel
theorem dX12_on_22 : decode cX12_on 22 = .ok (.ifCond .ne 5, 3) := by decide +kernel
theorem dX12_on_25 : decode cX12_on 25 = .ok (.iconst (-1), 1) := by decide +kernel
theorem dX12_on_26 : decode cX12_on 26 = .ok (.ireturn, 1) := by decide +kernel
theorem dX12_on_27 : decode cX12_on 27 = .ok (.iload_n 1, 1) := by decide +kernel
theorem dX12_on_28 : decode cX12_on 28 = .ok (.iconst 0, 1) := by decide +kernel
theorem dX12_on_29 : decode cX12_on 29 = .ok (.bipush 40, 2) := by decide +kernel
theorem dX12_on_31 : decode cX12_on 31 = .ok (.invokestatic 108, 3) := by decide +kernel
theorem dX12_on_34 : decode cX12_on 34 = .ok (.ifCond .ne 6, 3) := by decide +kernel
theorem dX12_on_37 : decode cX12_on 37 = .ok (.bipush (-2), 2) := by decide +kernel
theorem dX12_on_39 : decode cX12_on 39 = .ok (.ireturn, 1) := by decide +kernel
theorem dX12_on_40 : decode cX12_on 40 = .ok (.aload_n 0, 1) := by decide +kernel
theorem dX12_on_41 : decode cX12_on 41 = .ok (.aload_n 0, 1) := by decide +kernel
theorem dX12_on_42 : decode cX12_on 42 = .ok (.getfield 82, 3) := by decide +kernel
theorem dX12_on_45 : decode cX12_on 45 = .ok (.invokevirtual 253, 3) := by decide +kernel
theorem dX12_on_48 : decode cX12_on 48 = .ok (.iconst 0, 1) := by decide +kernel
theorem dX12_on_49 : decode cX12_on 49 = .ok (.istore_n 3, 1) := by decide +kernel
theorem dX12_on_50 : decode cX12_on 50 = .ok (.iload_n 3, 1) := by decide +kernel
theorem dX12_on_51 : decode cX12_on 51 = .ok (.iload_n 1, 1) := by decide +kernel
theorem dX12_on_52 : decode cX12_on 52 = .ok (.if_icmp .ge 13, 3) := by decide +kernel
theorem dX12_on_55 : decode cX12_on 55 = .ok (.aload_n 0, 1) := by decide +kernel
theorem dX12_on_56 : decode cX12_on 56 = .ok (.invokevirtual 250, 3) := by decide +kernel
theorem dX12_on_59 : decode cX12_on 59 = .ok (.iinc 3 1, 3) := by decide +kernel
theorem dX12_on_62 : decode cX12_on 62 = .ok (.goto (-12), 3) := by decide +kernel
theorem dX12_on_65 : decode cX12_on 65 = .ok (.iload_n 2, 1) := by decide +kernel
theorem dX12_on_66 : decode cX12_on 66 = .ok (.ifCond .ne 10, 3) := by decide +kernel
theorem dX12_on_69 : decode cX12_on 69 = .ok (.aload_n 0, 1) := by decide +kernel
theorem dX12_on_70 : decode cX12_on 70 = .ok (.invokevirtual 241, 3) := by decide +kernel
theorem dX12_on_73 : decode cX12_on 73 = .ok (.goto 30, 3) := by decide +kernel
theorem dX12_on_76 : decode cX12_on 76 = .ok (.iload_n 2, 1) := by decide +kernel
theorem dX12_on_77 : decode cX12_on 77 = .ok (.bipush 40, 2) := by decide +kernel
theorem dX12_on_79 : decode cX12_on 79 = .ok (.if_icmp .ge 15, 3) := by decide +kernel
theorem dX12_on_82 : decode cX12_on 82 = .ok (.aload_n 0, 1) := by decide +kernel
theorem dX12_on_83 : decode cX12_on 83 = .ok (.getfield 9, 3) := by decide +kernel
theorem dX12_on_86 : decode cX12_on 86 = .ok (.iload_n 2, 1) := by decide +kernel
theorem dX12_on_87 : decode cX12_on 87 = .ok (.bipush 10, 2) := by decide +kernel
theorem dX12_on_89 : decode cX12_on 89 = .ok (.isub, 1) := by decide +kernel
theorem dX12_on_90 : decode cX12_on 90 = .ok (.iaload, 1) := by decide +kernel
theorem dX12_on_91 : decode cX12_on 91 = .ok (.goto 12, 3) := by decide +kernel
theorem dX12_on_94 : decode cX12_on 94 = .ok (.aload_n 0, 1) := by decide +kernel
theorem dX12_on_95 : decode cX12_on 95 = .ok (.getfield 21, 3) := by decide +kernel
theorem dX12_on_98 : decode cX12_on 98 = .ok (.iload_n 2, 1) := by decide +kernel
theorem dX12_on_99 : decode cX12_on 99 = .ok (.bipush 40, 2) := by decide +kernel
theorem dX12_on_101 : decode cX12_on 101 = .ok (.isub, 1) := by decide +kernel
theorem dX12_on_102 : decode cX12_on 102 = .ok (.iaload, 1) := by decide +kernel
theorem dX12_on_103 : decode cX12_on 103 = .ok (.istore_n 3, 1) := by decide +kernel
theorem dX12_on_104 : decode cX12_on 104 = .ok (.aload_n 0, 1) := by decide +kernel
theorem dX12_on_105 : decode cX12_on 105 = .ok (.aload_n 0, 1) := by decide +kernel
theorem dX12_on_106 : decode cX12_on 106 = .ok (.getfield 82, 3) := by decide +kernel
theorem dX12_on_109 : decode cX12_on 109 = .ok (.invokevirtual 257, 3) := by decide +kernel
theorem dX12_on_112 : decode cX12_on 112 = .ok (.iload_n 3, 1) := by decide +kernel
theorem dX12_on_113 : decode cX12_on 113 = .ok (.ireturn, 1) := by decide +kernel
theorem dX12_gets_0 : decode cX12_gets 0 = .ok (.aload_n 0, 1) := by decide +kernel
theorem dX12_gets_1 : decode cX12_gets 1 = .ok (.aload_n 0, 1) := by decide +kernel
theorem dX12_gets_2 : decode cX12_gets 2 = .ok (.getfield 82, 3) := by decide +kernel
theorem dX12_gets_5 : decode cX12_gets 5 = .ok (.invokevirtual 253, 3) := by decide +kernel
theorem dX12_gets_8 : decode cX12_gets 8 = .ok (.bipush (-5), 2) := by decide +kernel
theorem dX12_gets_10 : decode cX12_gets 10 = .ok (.istore_n 3, 1) := by decide +kernel
theorem dX12_gets_11 : decode cX12_gets 11 = .ok (.iconst 0, 1) := by decide +kernel
theorem dX12_gets_12 : decode cX12_gets 12 = .ok (.istore 4, 2) := by decide +kernel
theorem dX12_gets_14 : decode cX12_gets 14 = .ok (.iload 4, 2) := by decide +kernel
theorem dX12_gets_16 : decode cX12_gets 16 = .ok (.bipush 41, 2) := by decide +kernel
theorem dX12_gets_18 : decode cX12_gets 18 = .ok (.if_icmp .ge 37, 3) := by decide +kernel
theorem dX12_gets_21 : decode cX12_gets 21 = .ok (.iload_n 3, 1) := by decide +kernel
theorem dX12_gets_22 : decode cX12_gets 22 = .ok (.bipush (-5), 2) := by decide +kernel
theorem dX12_gets_24 : decode cX12_gets 24 = .ok (.if_icmp .ne 31, 3) := by decide +kernel
theorem dX12_gets_27 : decode cX12_gets 27 = .ok (.iload 4, 2) := by decide +kernel
theorem dX12_gets_29 : decode cX12_gets 29 = .ok (.ifCond .le 7, 3) := by decide +kernel
theorem dX12_gets_32 : decode cX12_gets 32 = .ok (.aload_n 0, 1) := by decide +kernel
theorem dX12_gets_33 : decode cX12_gets 33 = .ok (.invokevirtual 250, 3) := by decide +kernel
theorem dX12_gets_36 : decode cX12_gets 36 = .ok (.aload_n 0, 1) := by decide +kernel
theorem dX12_gets_37 : decode cX12_gets 37 = .ok (.getfield 21, 3) := by decide +kernel
theorem dX12_gets_40 : decode cX12_gets 40 = .ok (.iload_n 1, 1) := by decide +kernel
theorem dX12_gets_41 : decode cX12_gets 41 = .ok (.iaload, 1) := by decide +kernel
theorem dX12_gets_42 : decode cX12_gets 42 = .ok (.iload_n 2, 1) := by decide +kernel
theorem dX12_gets_43 : decode cX12_gets 43 = .ok (.if_icmp .ne 6, 3) := by decide +kernel
theorem dX12_gets_46 : decode cX12_gets 46 = .ok (.iload 4, 2) := by decide +kernel
theorem dX12_gets_48 : decode cX12_gets 48 = .ok (.istore_n 3, 1) := by decide +kernel
theorem dX12_gets_49 : decode cX12_gets 49 = .ok (.iinc 4 1, 3) := by decide +kernel
theorem dX12_gets_52 : decode cX12_gets 52 = .ok (.goto (-38), 3) := by decide +kernel
theorem dX12_gets_55 : decode cX12_gets 55 = .ok (.aload_n 0, 1) := by decide +kernel
theorem dX12_gets_56 : decode cX12_gets 56 = .ok (.aload_n 0, 1) := by decide +kernel
theorem dX12_gets_57 : decode cX12_gets 57 = .ok (.getfield 82, 3) := by decide +kernel
theorem dX12_gets_60 : decode cX12_gets 60 = .ok (.invokevirtual 257, 3) := by decide +kernel
theorem dX12_gets_63 : decode cX12_gets 63 = .ok (.iload_n 3, 1) := by decide +kernel
theorem dX12_gets_64 : decode cX12_gets 64 = .ok (.ireturn, 1) := by decide +kernel
theorem dX12_steps_0 : decode cX12_steps 0 = .ok (.iconst 0, 1) := by decide +kernel
theorem dX12_steps_1 : decode cX12_steps 1 = .ok (.istore_n 3, 1) := by decide +kernel
theorem dX12_steps_2 : decode cX12_steps 2 = .ok (.iload_n 3, 1) := by decide +kernel
theorem dX12_steps_3 : decode cX12_steps 3 = .ok (.bipush 25, 2) := by decide +kernel
theorem dX12_steps_5 : decode cX12_steps 5 = .ok (.if_icmp .ge 31, 3) := by decide +kernel
theorem dX12_steps_8 : decode cX12_steps 8 = .ok (.aload_n 0, 1) := by decide +kernel
theorem dX12_steps_9 : decode cX12_steps 9 = .ok (.getfield 88, 3) := by decide +kernel
theorem dX12_steps_12 : decode cX12_steps 12 = .ok (.iload_n 3, 1) := by decide +kernel
theorem dX12_steps_13 : decode cX12_steps 13 = .ok (.iload_n 3, 1) := by decide +kernel
theorem dX12_steps_14 : decode cX12_steps 14 = .ok (.aload_n 0, 1) := by decide +kernel
theorem dX12_steps_15 : decode cX12_steps 15 = .ok (.getfield 21, 3) := by decide +kernel
theorem dX12_steps_18 : decode cX12_steps 18 = .ok (.iload_n 1, 1) := by decide +kernel
theorem dX12_steps_19 : decode cX12_steps 19 = .ok (.iaload, 1) := by decide +kernel
theorem dX12_steps_20 : decode cX12_steps 20 = .ok (.if_icmp .ne 7, 3) := by decide +kernel
theorem dX12_steps_23 : decode cX12_steps 23 = .ok (.iconst 0, 1) := by decide +kernel
theorem dX12_steps_24 : decode cX12_steps 24 = .ok (.goto 5, 3) := by decide +kernel
theorem dX12_steps_27 : decode cX12_steps 27 = .ok (.bipush (-5), 2) := by decide +kernel
theorem dX12_steps_29 : decode cX12_steps 29 = .ok (.iastore, 1) := by decide +kernel
theorem dX12_steps_30 : decode cX12_steps 30 = .ok (.iinc 3 1, 3) := by decide +kernel
theorem dX12_steps_33 : decode cX12_steps 33 = .ok (.goto (-31), 3) := by decide +kernel
theorem dX12_steps_36 : decode cX12_steps 36 = .ok (.iconst 0, 1) := by decide +kernel
theorem dX12_steps_37 : decode cX12_steps 37 = .ok (.istore_n 3, 1) := by decide +kernel
theorem dX12_steps_38 : decode cX12_steps 38 = .ok (.iload_n 3, 1) := by decide +kernel
theorem dX12_steps_39 : decode cX12_steps 39 = .ok (.bipush 25, 2) := by decide +kernel
theorem dX12_steps_41 : decode cX12_steps 41 = .ok (.if_icmp .ge 97, 3) := by decide +kernel
theorem dX12_steps_44 : decode cX12_steps 44 = .ok (.iconst 0, 1) := by decide +kernel
theorem dX12_steps_45 : decode cX12_steps 45 = .ok (.istore 4, 2) := by decide +kernel
theorem dX12_steps_47 : decode cX12_steps 47 = .ok (.iload 4, 2) := by decide +kernel
theorem dX12_steps_49 : decode cX12_steps 49 = .ok (.bipush 25, 2) := by decide +kernel
theorem dX12_steps_51 : decode cX12_steps 51 = .ok (.if_icmp .ge 81, 3) := by decide +kernel
theorem dX12_steps_54 : decode cX12_steps 54 = .ok (.iconst 0, 1) := by decide +kernel
theorem dX12_steps_55 : decode cX12_steps 55 = .ok (.istore 5, 2) := by decide +kernel
theorem dX12_steps_57 : decode cX12_steps 57 = .ok (.iload 5, 2) := by decide +kernel
theorem dX12_steps_59 : decode cX12_steps 59 = .ok (.iconst 4, 1) := by decide +kernel
theorem dX12_steps_60 : decode cX12_steps 60 = .ok (.if_icmp .ge 66, 3) := by decide +kernel
theorem dX12_steps_63 : decode cX12_steps 63 = .ok (.aload_n 0, 1) := by decide +kernel
theorem dX12_steps_64 : decode cX12_steps 64 = .ok (.getfield 88, 3) := by decide +kernel
theorem dX12_steps_67 : decode cX12_steps 67 = .ok (.iload 4, 2) := by decide +kernel
theorem dX12_steps_69 : decode cX12_steps 69 = .ok (.iaload, 1) := by decide +kernel
theorem dX12_steps_70 : decode cX12_steps 70 = .ok (.iload_n 3, 1) := by decide +kernel
theorem dX12_steps_71 : decode cX12_steps 71 = .ok (.if_icmp .ne 55, 3) := by decide +kernel
theorem dX12_steps_74 : decode cX12_steps 74 = .ok (.iload 4, 2) := by decide +kernel
theorem dX12_steps_76 : decode cX12_steps 76 = .ok (.iload 5, 2) := by decide +kernel
theorem dX12_steps_78 : decode cX12_steps 78 = .ok (.invokestatic 224, 3) := by decide +kernel
theorem dX12_steps_81 : decode cX12_steps 81 = .ok (.istore 6, 2) := by decide +kernel
theorem dX12_steps_83 : decode cX12_steps 83 = .ok (.iload 6, 2) := by decide +kernel
theorem dX12_steps_85 : decode cX12_steps 85 = .ok (.iconst (-1), 1) := by decide +kernel
theorem dX12_steps_86 : decode cX12_steps 86 = .ok (.if_icmp .eq 34, 3) := by decide +kernel
theorem dX12_steps_89 : decode cX12_steps 89 = .ok (.aload_n 0, 1) := by decide +kernel
theorem dX12_steps_90 : decode cX12_steps 90 = .ok (.getfield 88, 3) := by decide +kernel
theorem dX12_steps_93 : decode cX12_steps 93 = .ok (.iload 6, 2) := by decide +kernel
theorem dX12_steps_95 : decode cX12_steps 95 = .ok (.iaload, 1) := by decide +kernel
theorem dX12_steps_96 : decode cX12_steps 96 = .ok (.bipush (-5), 2) := by decide +kernel
theorem dX12_steps_98 : decode cX12_steps 98 = .ok (.if_icmp .ne 22, 3) := by decide +kernel
theorem dX12_steps_101 : decode cX12_steps 101 = .ok (.aload_n 0, 1) := by decide +kernel
theorem dX12_steps_102 : decode cX12_steps 102 = .ok (.iload 6, 2) := by decide +kernel
theorem dX12_steps_104 : decode cX12_steps 104 = .ok (.invokevirtual 227, 3) := by decide +kernel
theorem dX12_steps_107 : decode cX12_steps 107 = .ok (.ifCond .ne 13, 3) := by decide +kernel
theorem dX12_steps_110 : decode cX12_steps 110 = .ok (.aload_n 0, 1) := by decide +kernel
theorem dX12_steps_111 : decode cX12_steps 111 = .ok (.getfield 88, 3) := by decide +kernel
theorem dX12_steps_114 : decode cX12_steps 114 = .ok (.iload 6, 2) := by decide +kernel
theorem dX12_steps_116 : decode cX12_steps 116 = .ok (.iload_n 3, 1) := by decide +kernel
theorem dX12_steps_117 : decode cX12_steps 117 = .ok (.iconst 1, 1) := by decide +kernel
theorem dX12_steps_118 : decode cX12_steps 118 = .ok (.iadd, 1) := by decide +kernel
theorem dX12_steps_119 : decode cX12_steps 119 = .ok (.iastore, 1) := by decide +kernel
theorem dX12_steps_120 : decode cX12_steps 120 = .ok (.iinc 5 1, 3) := by decide +kernel
theorem dX12_steps_123 : decode cX12_steps 123 = .ok (.goto (-66), 3) := by decide +kernel
theorem dX12_steps_126 : decode cX12_steps 126 = .ok (.iinc 4 1, 3) := by decide +kernel
theorem dX12_steps_129 : decode cX12_steps 129 = .ok (.goto (-82), 3) := by decide +kernel
theorem dX12_steps_132 : decode cX12_steps 132 = .ok (.iinc 3 1, 3) := by decide +kernel
theorem dX12_steps_135 : decode cX12_steps 135 = .ok (.goto (-97), 3) := by decide +kernel
theorem dX12_steps_138 : decode cX12_steps 138 = .ok (.aload_n 0, 1) := by decide +kernel
theorem dX12_steps_139 : decode cX12_steps 139 = .ok (.getfield 88, 3) := by decide +kernel
theorem dX12_steps_142 : decode cX12_steps 142 = .ok (.iload_n 2, 1) := by decide +kernel
theorem dX12_steps_143 : decode cX12_steps 143 = .ok (.iaload, 1) := by decide +kernel
theorem dX12_steps_144 : decode cX12_steps 144 = .ok (.ireturn, 1) := by decide +kernel
theorem dX12_block_0 : decode cX12_block 0 = .ok (.aload_n 0, 1) := by decide +kernel
theorem dX12_block_1 : decode cX12_block 1 = .ok (.aload_n 0, 1) := by decide +kernel
theorem dX12_block_2 : decode cX12_block 2 = .ok (.getfield 85, 3) := by decide +kernel
theorem dX12_block_5 : decode cX12_block 5 = .ok (.invokevirtual 253, 3) := by decide +kernel
theorem dX12_block_8 : decode cX12_block 8 = .ok (.iconst 0, 1) := by decide +kernel
theorem dX12_block_9 : decode cX12_block 9 = .ok (.istore_n 3, 1) := by decide +kernel
theorem dX12_block_10 : decode cX12_block 10 = .ok (.iload_n 3, 1) := by decide +kernel
theorem dX12_block_11 : decode cX12_block 11 = .ok (.aload_n 0, 1) := by decide +kernel
theorem dX12_block_12 : decode cX12_block 12 = .ok (.getfield 105, 3) := by decide +kernel
theorem dX12_block_15 : decode cX12_block 15 = .ok (.if_icmp .ge 21, 3) := by decide +kernel
theorem dX12_block_18 : decode cX12_block 18 = .ok (.iload_n 3, 1) := by decide +kernel
theorem dX12_block_19 : decode cX12_block 19 = .ok (.iload_n 1, 1) := by decide +kernel
theorem dX12_block_20 : decode cX12_block 20 = .ok (.if_icmp .eq 10, 3) := by decide +kernel
theorem dX12_block_23 : decode cX12_block 23 = .ok (.aload_n 0, 1) := by decide +kernel
theorem dX12_block_24 : decode cX12_block 24 = .ok (.getfield 24, 3) := by decide +kernel
theorem dX12_block_27 : decode cX12_block 27 = .ok (.iload_n 3, 1) := by decide +kernel
theorem dX12_block_28 : decode cX12_block 28 = .ok (.iconst 1, 1) := by decide +kernel
theorem dX12_block_29 : decode cX12_block 29 = .ok (.iastore, 1) := by decide +kernel
theorem dX12_block_30 : decode cX12_block 30 = .ok (.iinc 3 1, 3) := by decide +kernel
theorem dX12_block_33 : decode cX12_block 33 = .ok (.goto (-23), 3) := by decide +kernel
theorem dX12_block_36 : decode cX12_block 36 = .ok (.aload_n 0, 1) := by decide +kernel
theorem dX12_block_37 : decode cX12_block 37 = .ok (.iload_n 1, 1) := by decide +kernel
theorem dX12_block_38 : decode cX12_block 38 = .ok (.iload_n 2, 1) := by decide +kernel
theorem dX12_block_39 : decode cX12_block 39 = .ok (.invokevirtual 260, 3) := by decide +kernel
theorem dX12_block_42 : decode cX12_block 42 = .ok (.istore_n 3, 1) := by decide +kernel
theorem dX12_block_43 : decode cX12_block 43 = .ok (.iload_n 3, 1) := by decide +kernel
theorem dX12_block_44 : decode cX12_block 44 = .ok (.bipush (-5), 2) := by decide +kernel
theorem dX12_block_46 : decode cX12_block 46 = .ok (.if_icmp .ne 8, 3) := by decide +kernel
theorem dX12_block_49 : decode cX12_block 49 = .ok (.bipush 99, 2) := by decide +kernel
theorem dX12_block_51 : decode cX12_block 51 = .ok (.goto 4, 3) := by decide +kernel
theorem dX12_block_54 : decode cX12_block 54 = .ok (.iload_n 3, 1) := by decide +kernel
theorem dX12_block_55 : decode cX12_block 55 = .ok (.istore 4, 2) := by decide +kernel
theorem dX12_block_57 : decode cX12_block 57 = .ok (.bipush (-5), 2) := by decide +kernel
theorem dX12_block_59 : decode cX12_block 59 = .ok (.istore 5, 2) := by decide +kernel
theorem dX12_block_61 : decode cX12_block 61 = .ok (.iconst 0, 1) := by decide +kernel
theorem dX12_block_62 : decode cX12_block 62 = .ok (.istore 6, 2) := by decide +kernel
theorem dX12_block_64 : decode cX12_block 64 = .ok (.iload 6, 2) := by decide +kernel
theorem dX12_block_66 : decode cX12_block 66 = .ok (.bipush 25, 2) := by decide +kernel
theorem dX12_block_68 : decode cX12_block 68 = .ok (.if_icmp .ge 93, 3) := by decide +kernel
theorem dX12_block_71 : decode cX12_block 71 = .ok (.iload 6, 2) := by decide +kernel
theorem dX12_block_73 : decode cX12_block 73 = .ok (.iload_n 2, 1) := by decide +kernel
theorem dX12_block_74 : decode cX12_block 74 = .ok (.if_icmp .eq 81, 3) := by decide +kernel
theorem dX12_block_77 : decode cX12_block 77 = .ok (.iload 6, 2) := by decide +kernel
theorem dX12_block_79 : decode cX12_block 79 = .ok (.aload_n 0, 1) := by decide +kernel
theorem dX12_block_80 : decode cX12_block 80 = .ok (.getfield 21, 3) := by decide +kernel
theorem dX12_block_83 : decode cX12_block 83 = .ok (.iload_n 1, 1) := by decide +kernel
theorem dX12_block_84 : decode cX12_block 84 = .ok (.iaload, 1) := by decide +kernel
theorem dX12_block_85 : decode cX12_block 85 = .ok (.if_icmp .ne 6, 3) := by decide +kernel
theorem dX12_block_88 : decode cX12_block 88 = .ok (.goto 67, 3) := by decide +kernel
theorem dX12_block_91 : decode cX12_block 91 = .ok (.aload_n 0, 1) := by decide +kernel
theorem dX12_block_92 : decode cX12_block 92 = .ok (.getfield 9, 3) := by decide +kernel
theorem dX12_block_95 : decode cX12_block 95 = .ok (.iload 6, 2) := by decide +kernel
theorem dX12_block_97 : decode cX12_block 97 = .ok (.iaload, 1) := by decide +kernel
theorem dX12_block_98 : decode cX12_block 98 = .ok (.istore 7, 2) := by decide +kernel
theorem dX12_block_100 : decode cX12_block 100 = .ok (.aload_n 0, 1) := by decide +kernel
theorem dX12_block_101 : decode cX12_block 101 = .ok (.getfield 9, 3) := by decide +kernel
theorem dX12_block_104 : decode cX12_block 104 = .ok (.iload 6, 2) := by decide +kernel
theorem dX12_block_106 : decode cX12_block 106 = .ok (.bipush 99, 2) := by decide +kernel
theorem dX12_block_108 : decode cX12_block 108 = .ok (.iastore, 1) := by decide +kernel
theorem dX12_block_109 : decode cX12_block 109 = .ok (.aload_n 0, 1) := by decide +kernel
theorem dX12_block_110 : decode cX12_block 110 = .ok (.iload_n 1, 1) := by decide +kernel
theorem dX12_block_111 : decode cX12_block 111 = .ok (.iload_n 2, 1) := by decide +kernel
theorem dX12_block_112 : decode cX12_block 112 = .ok (.invokevirtual 260, 3) := by decide +kernel
theorem dX12_block_115 : decode cX12_block 115 = .ok (.istore 8, 2) := by decide +kernel
theorem dX12_block_117 : decode cX12_block 117 = .ok (.aload_n 0, 1) := by decide +kernel
theorem dX12_block_118 : decode cX12_block 118 = .ok (.getfield 9, 3) := by decide +kernel
theorem dX12_block_121 : decode cX12_block 121 = .ok (.iload 6, 2) := by decide +kernel
theorem dX12_block_123 : decode cX12_block 123 = .ok (.iload 7, 2) := by decide +kernel
theorem dX12_block_125 : decode cX12_block 125 = .ok (.iastore, 1) := by decide +kernel
theorem dX12_block_126 : decode cX12_block 126 = .ok (.iload 8, 2) := by decide +kernel
theorem dX12_block_128 : decode cX12_block 128 = .ok (.bipush (-5), 2) := by decide +kernel
theorem dX12_block_130 : decode cX12_block 130 = .ok (.if_icmp .ne 7, 3) := by decide +kernel
theorem dX12_block_133 : decode cX12_block 133 = .ok (.bipush 99, 2) := by decide +kernel
theorem dX12_block_135 : decode cX12_block 135 = .ok (.istore 8, 2) := by decide +kernel
theorem dX12_block_137 : decode cX12_block 137 = .ok (.iload 8, 2) := by decide +kernel
theorem dX12_block_139 : decode cX12_block 139 = .ok (.iload 4, 2) := by decide +kernel
theorem dX12_block_141 : decode cX12_block 141 = .ok (.if_icmp .gt 6, 3) := by decide +kernel
theorem dX12_block_144 : decode cX12_block 144 = .ok (.goto 11, 3) := by decide +kernel
theorem dX12_block_147 : decode cX12_block 147 = .ok (.iload 8, 2) := by decide +kernel
theorem dX12_block_149 : decode cX12_block 149 = .ok (.istore 4, 2) := by decide +kernel
theorem dX12_block_151 : decode cX12_block 151 = .ok (.iload 6, 2) := by decide +kernel
theorem dX12_block_153 : decode cX12_block 153 = .ok (.istore 5, 2) := by decide +kernel
theorem dX12_block_155 : decode cX12_block 155 = .ok (.iinc 6 1, 3) := by decide +kernel
theorem dX12_block_158 : decode cX12_block 158 = .ok (.goto (-94), 3) := by decide +kernel
theorem dX12_block_161 : decode cX12_block 161 = .ok (.aload_n 0, 1) := by decide +kernel
theorem dX12_block_162 : decode cX12_block 162 = .ok (.aload_n 0, 1) := by decide +kernel
theorem dX12_block_163 : decode cX12_block 163 = .ok (.getfield 85, 3) := by decide +kernel
theorem dX12_block_166 : decode cX12_block 166 = .ok (.invokevirtual 257, 3) := by decide +kernel
theorem dX12_block_169 : decode cX12_block 169 = .ok (.iload 5, 2) := by decide +kernel
theorem dX12_block_171 : decode cX12_block 171 = .ok (.ireturn, 1) := by decide +kernel
theorem dX12_way_0 : decode cX12_way 0 = .ok (.aload_n 0, 1) := by decide +kernel
theorem dX12_way_1 : decode cX12_way 1 = .ok (.iload_n 1, 1) := by decide +kernel
theorem dX12_way_2 : decode cX12_way 2 = .ok (.invokevirtual 116, 3) := by decide +kernel
theorem dX12_way_5 : decode cX12_way 5 = .ok (.ifCond .eq 10, 3) := by decide +kernel
theorem dX12_way_8 : decode cX12_way 8 = .ok (.iload_n 2, 1) := by decide +kernel
theorem dX12_way_9 : decode cX12_way 9 = .ok (.invokestatic 112, 3) := by decide +kernel
theorem dX12_way_12 : decode cX12_way 12 = .ok (.ifCond .ne 5, 3) := by decide +kernel
theorem dX12_way_15 : decode cX12_way 15 = .ok (.iconst (-1), 1) := by decide +kernel
theorem dX12_way_16 : decode cX12_way 16 = .ok (.ireturn, 1) := by decide +kernel
theorem dX12_way_17 : decode cX12_way 17 = .ok (.iload_n 3, 1) := by decide +kernel
theorem dX12_way_18 : decode cX12_way 18 = .ok (.tableswitch 47 0 2 #[26, 33, 40], 26) := by decide +kernel
theorem dX12_way_44 : decode cX12_way 44 = .ok (.aload_n 0, 1) := by decide +kernel
theorem dX12_way_45 : decode cX12_way 45 = .ok (.iload_n 1, 1) := by decide +kernel
theorem dX12_way_46 : decode cX12_way 46 = .ok (.iload_n 2, 1) := by decide +kernel
theorem dX12_way_47 : decode cX12_way 47 = .ok (.invokevirtual 260, 3) := by decide +kernel
theorem dX12_way_50 : decode cX12_way 50 = .ok (.ireturn, 1) := by decide +kernel
theorem dX12_way_51 : decode cX12_way 51 = .ok (.aload_n 0, 1) := by decide +kernel
theorem dX12_way_52 : decode cX12_way 52 = .ok (.iload_n 1, 1) := by decide +kernel
theorem dX12_way_53 : decode cX12_way 53 = .ok (.iload_n 2, 1) := by decide +kernel
theorem dX12_way_54 : decode cX12_way 54 = .ok (.invokevirtual 263, 3) := by decide +kernel
theorem dX12_way_57 : decode cX12_way 57 = .ok (.ireturn, 1) := by decide +kernel
theorem dX12_way_58 : decode cX12_way 58 = .ok (.aload_n 0, 1) := by decide +kernel
theorem dX12_way_59 : decode cX12_way 59 = .ok (.iload_n 1, 1) := by decide +kernel
theorem dX12_way_60 : decode cX12_way 60 = .ok (.iload_n 2, 1) := by decide +kernel
theorem dX12_way_61 : decode cX12_way 61 = .ok (.invokevirtual 266, 3) := by decide +kernel
theorem dX12_way_64 : decode cX12_way 64 = .ok (.ireturn, 1) := by decide +kernel
theorem dX12_way_65 : decode cX12_way 65 = .ok (.iconst (-1), 1) := by decide +kernel
theorem dX12_way_66 : decode cX12_way 66 = .ok (.ireturn, 1) := by decide +kernel
theorem dX12_areNext_0 : decode cX12_areNext 0 = .ok (.iconst 0, 1) := by decide +kernel
theorem dX12_areNext_1 : decode cX12_areNext 1 = .ok (.istore_n 2, 1) := by decide +kernel
theorem dX12_areNext_2 : decode cX12_areNext 2 = .ok (.iload_n 2, 1) := by decide +kernel
theorem dX12_areNext_3 : decode cX12_areNext 3 = .ok (.iconst 4, 1) := by decide +kernel
theorem dX12_areNext_4 : decode cX12_areNext 4 = .ok (.if_icmp .ge 20, 3) := by decide +kernel
theorem dX12_areNext_7 : decode cX12_areNext 7 = .ok (.iload_n 0, 1) := by decide +kernel
theorem dX12_areNext_8 : decode cX12_areNext 8 = .ok (.iload_n 2, 1) := by decide +kernel
theorem dX12_areNext_9 : decode cX12_areNext 9 = .ok (.invokestatic 224, 3) := by decide +kernel
theorem dX12_areNext_12 : decode cX12_areNext 12 = .ok (.iload_n 1, 1) := by decide +kernel
theorem dX12_areNext_13 : decode cX12_areNext 13 = .ok (.if_icmp .ne 5, 3) := by decide +kernel
theorem dX12_areNext_16 : decode cX12_areNext 16 = .ok (.iconst 1, 1) := by decide +kernel
theorem dX12_areNext_17 : decode cX12_areNext 17 = .ok (.ireturn, 1) := by decide +kernel
theorem dX12_areNext_18 : decode cX12_areNext 18 = .ok (.iinc 2 1, 3) := by decide +kernel
theorem dX12_areNext_21 : decode cX12_areNext 21 = .ok (.goto (-19), 3) := by decide +kernel
theorem dX12_areNext_24 : decode cX12_areNext 24 = .ok (.iconst 0, 1) := by decide +kernel
theorem dX12_areNext_25 : decode cX12_areNext 25 = .ok (.ireturn, 1) := by decide +kernel
theorem dX12_night_0 : decode cX12_night 0 = .ok (.aload_n 0, 1) := by decide +kernel
theorem dX12_night_1 : decode cX12_night 1 = .ok (.iload_n 1, 1) := by decide +kernel
theorem dX12_night_2 : decode cX12_night 2 = .ok (.invokevirtual 116, 3) := by decide +kernel
theorem dX12_night_5 : decode cX12_night 5 = .ok (.ifCond .eq 10, 3) := by decide +kernel
theorem dX12_night_8 : decode cX12_night 8 = .ok (.iload_n 2, 1) := by decide +kernel
theorem dX12_night_9 : decode cX12_night 9 = .ok (.invokestatic 112, 3) := by decide +kernel
theorem dX12_night_12 : decode cX12_night 12 = .ok (.ifCond .ne 5, 3) := by decide +kernel
theorem dX12_night_15 : decode cX12_night 15 = .ok (.iconst (-1), 1) := by decide +kernel
theorem dX12_night_16 : decode cX12_night 16 = .ok (.ireturn, 1) := by decide +kernel
theorem dX12_night_17 : decode cX12_night 17 = .ok (.aload_n 0, 1) := by decide +kernel
theorem dX12_night_18 : decode cX12_night 18 = .ok (.getfield 21, 3) := by decide +kernel
theorem dX12_night_21 : decode cX12_night 21 = .ok (.iload_n 1, 1) := by decide +kernel
theorem dX12_night_22 : decode cX12_night 22 = .ok (.iaload, 1) := by decide +kernel
theorem dX12_night_23 : decode cX12_night 23 = .ok (.iload_n 2, 1) := by decide +kernel
theorem dX12_night_24 : decode cX12_night 24 = .ok (.invokestatic 269, 3) := by decide +kernel
theorem dX12_night_27 : decode cX12_night 27 = .ok (.ifCond .ne 6, 3) := by decide +kernel
theorem dX12_night_30 : decode cX12_night 30 = .ok (.bipush (-2), 2) := by decide +kernel
theorem dX12_night_32 : decode cX12_night 32 = .ok (.ireturn, 1) := by decide +kernel
theorem dX12_night_33 : decode cX12_night 33 = .ok (.aload_n 0, 1) := by decide +kernel
theorem dX12_night_34 : decode cX12_night 34 = .ok (.getfield 9, 3) := by decide +kernel
theorem dX12_night_37 : decode cX12_night 37 = .ok (.iload_n 2, 1) := by decide +kernel
theorem dX12_night_38 : decode cX12_night 38 = .ok (.iaload, 1) := by decide +kernel
theorem dX12_night_39 : decode cX12_night 39 = .ok (.istore_n 3, 1) := by decide +kernel
theorem dX12_night_40 : decode cX12_night 40 = .ok (.bipush (-5), 2) := by decide +kernel
theorem dX12_night_42 : decode cX12_night 42 = .ok (.istore 4, 2) := by decide +kernel
theorem dX12_night_44 : decode cX12_night 44 = .ok (.bipush 99, 2) := by decide +kernel
theorem dX12_night_46 : decode cX12_night 46 = .ok (.istore 5, 2) := by decide +kernel
theorem dX12_night_48 : decode cX12_night 48 = .ok (.iload 5, 2) := by decide +kernel
theorem dX12_night_50 : decode cX12_night 50 = .ok (.ifCond .lt 35, 3) := by decide +kernel
theorem dX12_night_53 : decode cX12_night 53 = .ok (.aload_n 0, 1) := by decide +kernel
theorem dX12_night_54 : decode cX12_night 54 = .ok (.getfield 9, 3) := by decide +kernel
theorem dX12_night_57 : decode cX12_night 57 = .ok (.iload_n 2, 1) := by decide +kernel
theorem dX12_night_58 : decode cX12_night 58 = .ok (.iload_n 3, 1) := by decide +kernel
theorem dX12_night_59 : decode cX12_night 59 = .ok (.iload 5, 2) := by decide +kernel
theorem dX12_night_61 : decode cX12_night 61 = .ok (.iadd, 1) := by decide +kernel
theorem dX12_night_62 : decode cX12_night 62 = .ok (.invokestatic 238, 3) := by decide +kernel
theorem dX12_night_65 : decode cX12_night 65 = .ok (.iastore, 1) := by decide +kernel
theorem dX12_night_66 : decode cX12_night 66 = .ok (.aload_n 0, 1) := by decide +kernel
theorem dX12_night_67 : decode cX12_night 67 = .ok (.iload_n 1, 1) := by decide +kernel
theorem dX12_night_68 : decode cX12_night 68 = .ok (.invokevirtual 119, 3) := by decide +kernel
theorem dX12_night_71 : decode cX12_night 71 = .ok (.iload_n 2, 1) := by decide +kernel
theorem dX12_night_72 : decode cX12_night 72 = .ok (.if_icmp .ne 7, 3) := by decide +kernel
theorem dX12_night_75 : decode cX12_night 75 = .ok (.iload 5, 2) := by decide +kernel
theorem dX12_night_77 : decode cX12_night 77 = .ok (.istore 4, 2) := by decide +kernel
theorem dX12_night_79 : decode cX12_night 79 = .ok (.iinc 5 (-1), 3) := by decide +kernel
theorem dX12_night_82 : decode cX12_night 82 = .ok (.goto (-34), 3) := by decide +kernel
theorem dX12_night_85 : decode cX12_night 85 = .ok (.aload_n 0, 1) := by decide +kernel
theorem dX12_night_86 : decode cX12_night 86 = .ok (.getfield 9, 3) := by decide +kernel
theorem dX12_night_89 : decode cX12_night 89 = .ok (.iload_n 2, 1) := by decide +kernel
theorem dX12_night_90 : decode cX12_night 90 = .ok (.iload_n 3, 1) := by decide +kernel
theorem dX12_night_91 : decode cX12_night 91 = .ok (.iastore, 1) := by decide +kernel
theorem dX12_night_92 : decode cX12_night 92 = .ok (.iload 4, 2) := by decide +kernel
theorem dX12_night_94 : decode cX12_night 94 = .ok (.ireturn, 1) := by decide +kernel
theorem dX12_see_0 : decode cX12_see 0 = .ok (.iload_n 1, 1) := by decide +kernel
theorem dX12_see_1 : decode cX12_see 1 = .ok (.iconst (-1), 1) := by decide +kernel
theorem dX12_see_2 : decode cX12_see 2 = .ok (.if_icmp .ne 10, 3) := by decide +kernel
theorem dX12_see_5 : decode cX12_see 5 = .ok (.aload_n 0, 1) := by decide +kernel
theorem dX12_see_6 : decode cX12_see 6 = .ok (.iconst 0, 1) := by decide +kernel
theorem dX12_see_7 : decode cX12_see 7 = .ok (.putfield 273, 3) := by decide +kernel
theorem dX12_see_10 : decode cX12_see 10 = .ok (.iconst 0, 1) := by decide +kernel
theorem dX12_see_11 : decode cX12_see 11 = .ok (.ireturn, 1) := by decide +kernel
theorem dX12_see_12 : decode cX12_see 12 = .ok (.aload_n 0, 1) := by decide +kernel
theorem dX12_see_13 : decode cX12_see 13 = .ok (.iload_n 1, 1) := by decide +kernel
theorem dX12_see_14 : decode cX12_see 14 = .ok (.invokevirtual 116, 3) := by decide +kernel
theorem dX12_see_17 : decode cX12_see 17 = .ok (.ifCond .eq 10, 3) := by decide +kernel
theorem dX12_see_20 : decode cX12_see 20 = .ok (.iload_n 3, 1) := by decide +kernel
theorem dX12_see_21 : decode cX12_see 21 = .ok (.invokestatic 112, 3) := by decide +kernel
theorem dX12_see_24 : decode cX12_see 24 = .ok (.ifCond .ne 5, 3) := by decide +kernel
theorem dX12_see_27 : decode cX12_see 27 = .ok (.iconst (-1), 1) := by decide +kernel
theorem dX12_see_28 : decode cX12_see 28 = .ok (.ireturn, 1) := by decide +kernel
theorem dX12_see_29 : decode cX12_see 29 = .ok (.iload_n 2, 1) := by decide +kernel
theorem dX12_see_30 : decode cX12_see 30 = .ok (.iconst 0, 1) := by decide +kernel
theorem dX12_see_31 : decode cX12_see 31 = .ok (.bipush 8, 2) := by decide +kernel
theorem dX12_see_33 : decode cX12_see 33 = .ok (.invokestatic 108, 3) := by decide +kernel
theorem dX12_see_36 : decode cX12_see 36 = .ok (.ifCond .ne 6, 3) := by decide +kernel
theorem dX12_see_39 : decode cX12_see 39 = .ok (.bipush (-2), 2) := by decide +kernel
theorem dX12_see_41 : decode cX12_see 41 = .ok (.ireturn, 1) := by decide +kernel
theorem dX12_see_42 : decode cX12_see 42 = .ok (.aload_n 0, 1) := by decide +kernel
theorem dX12_see_43 : decode cX12_see 43 = .ok (.getfield 273, 3) := by decide +kernel
theorem dX12_see_46 : decode cX12_see 46 = .ok (.iconst 5, 1) := by decide +kernel
theorem dX12_see_47 : decode cX12_see 47 = .ok (.if_icmp .ne 6, 3) := by decide +kernel
theorem dX12_see_50 : decode cX12_see 50 = .ok (.bipush (-4), 2) := by decide +kernel
theorem dX12_see_52 : decode cX12_see 52 = .ok (.ireturn, 1) := by decide +kernel
theorem dX12_see_53 : decode cX12_see 53 = .ok (.aload_n 0, 1) := by decide +kernel
theorem dX12_see_54 : decode cX12_see 54 = .ok (.getfield 55, 3) := by decide +kernel
theorem dX12_see_57 : decode cX12_see 57 = .ok (.aload_n 0, 1) := by decide +kernel
theorem dX12_see_58 : decode cX12_see 58 = .ok (.getfield 273, 3) := by decide +kernel
theorem dX12_see_61 : decode cX12_see 61 = .ok (.iload_n 1, 1) := by decide +kernel
theorem dX12_see_62 : decode cX12_see 62 = .ok (.iastore, 1) := by decide +kernel
theorem dX12_see_63 : decode cX12_see 63 = .ok (.aload_n 0, 1) := by decide +kernel
theorem dX12_see_64 : decode cX12_see 64 = .ok (.getfield 58, 3) := by decide +kernel
theorem dX12_see_67 : decode cX12_see 67 = .ok (.aload_n 0, 1) := by decide +kernel
theorem dX12_see_68 : decode cX12_see 68 = .ok (.getfield 273, 3) := by decide +kernel
theorem dX12_see_71 : decode cX12_see 71 = .ok (.iload_n 2, 1) := by decide +kernel
theorem dX12_see_72 : decode cX12_see 72 = .ok (.iastore, 1) := by decide +kernel
theorem dX12_see_73 : decode cX12_see 73 = .ok (.aload_n 0, 1) := by decide +kernel
theorem dX12_see_74 : decode cX12_see 74 = .ok (.getfield 61, 3) := by decide +kernel
theorem dX12_see_77 : decode cX12_see 77 = .ok (.aload_n 0, 1) := by decide +kernel
theorem dX12_see_78 : decode cX12_see 78 = .ok (.dup, 1) := by decide +kernel
theorem dX12_see_79 : decode cX12_see 79 = .ok (.getfield 273, 3) := by decide +kernel
theorem dX12_see_82 : decode cX12_see 82 = .ok (.dup_x1, 1) := by decide +kernel
theorem dX12_see_83 : decode cX12_see 83 = .ok (.iconst 1, 1) := by decide +kernel
theorem dX12_see_84 : decode cX12_see 84 = .ok (.iadd, 1) := by decide +kernel
theorem dX12_see_85 : decode cX12_see 85 = .ok (.putfield 273, 3) := by decide +kernel
theorem dX12_see_88 : decode cX12_see 88 = .ok (.iload_n 3, 1) := by decide +kernel
theorem dX12_see_89 : decode cX12_see 89 = .ok (.iastore, 1) := by decide +kernel
theorem dX12_see_90 : decode cX12_see 90 = .ok (.aload_n 0, 1) := by decide +kernel
theorem dX12_see_91 : decode cX12_see 91 = .ok (.getfield 273, 3) := by decide +kernel
theorem dX12_see_94 : decode cX12_see 94 = .ok (.ireturn, 1) := by decide +kernel
theorem dX12_isSeen_0 : decode cX12_isSeen 0 = .ok (.iconst 1, 1) := by decide +kernel
theorem dX12_isSeen_1 : decode cX12_isSeen 1 = .ok (.istore_n 1, 1) := by decide +kernel
theorem dX12_isSeen_2 : decode cX12_isSeen 2 = .ok (.iconst 0, 1) := by decide +kernel
theorem dX12_isSeen_3 : decode cX12_isSeen 3 = .ok (.istore_n 2, 1) := by decide +kernel
theorem dX12_isSeen_4 : decode cX12_isSeen 4 = .ok (.iload_n 2, 1) := by decide +kernel
theorem dX12_isSeen_5 : decode cX12_isSeen 5 = .ok (.bipush 9, 2) := by decide +kernel
theorem dX12_isSeen_7 : decode cX12_isSeen 7 = .ok (.if_icmp .ge 65, 3) := by decide +kernel
theorem dX12_isSeen_10 : decode cX12_isSeen 10 = .ok (.iload_n 2, 1) := by decide +kernel
theorem dX12_isSeen_11 : decode cX12_isSeen 11 = .ok (.ifCond .le 7, 3) := by decide +kernel
theorem dX12_isSeen_14 : decode cX12_isSeen 14 = .ok (.aload_n 0, 1) := by decide +kernel
theorem dX12_isSeen_15 : decode cX12_isSeen 15 = .ok (.invokevirtual 250, 3) := by decide +kernel
theorem dX12_isSeen_18 : decode cX12_isSeen 18 = .ok (.iconst 0, 1) := by decide +kernel
theorem dX12_isSeen_19 : decode cX12_isSeen 19 = .ok (.istore_n 3, 1) := by decide +kernel
theorem dX12_isSeen_20 : decode cX12_isSeen 20 = .ok (.iload_n 3, 1) := by decide +kernel
theorem dX12_isSeen_21 : decode cX12_isSeen 21 = .ok (.aload_n 0, 1) := by decide +kernel
theorem dX12_isSeen_22 : decode cX12_isSeen 22 = .ok (.getfield 273, 3) := by decide +kernel
theorem dX12_isSeen_25 : decode cX12_isSeen 25 = .ok (.if_icmp .ge 41, 3) := by decide +kernel
theorem dX12_isSeen_28 : decode cX12_isSeen 28 = .ok (.aload_n 0, 1) := by decide +kernel
theorem dX12_isSeen_29 : decode cX12_isSeen 29 = .ok (.getfield 58, 3) := by decide +kernel
theorem dX12_isSeen_32 : decode cX12_isSeen 32 = .ok (.iload_n 3, 1) := by decide +kernel
theorem dX12_isSeen_33 : decode cX12_isSeen 33 = .ok (.iaload, 1) := by decide +kernel
theorem dX12_isSeen_34 : decode cX12_isSeen 34 = .ok (.iload_n 2, 1) := by decide +kernel
theorem dX12_isSeen_35 : decode cX12_isSeen 35 = .ok (.if_icmp .ne 25, 3) := by decide +kernel
theorem dX12_isSeen_38 : decode cX12_isSeen 38 = .ok (.aload_n 0, 1) := by decide +kernel
theorem dX12_isSeen_39 : decode cX12_isSeen 39 = .ok (.getfield 21, 3) := by decide +kernel
theorem dX12_isSeen_42 : decode cX12_isSeen 42 = .ok (.aload_n 0, 1) := by decide +kernel
theorem dX12_isSeen_43 : decode cX12_isSeen 43 = .ok (.getfield 55, 3) := by decide +kernel
theorem dX12_isSeen_46 : decode cX12_isSeen 46 = .ok (.iload_n 3, 1) := by decide +kernel
theorem dX12_isSeen_47 : decode cX12_isSeen 47 = .ok (.iaload, 1) := by decide +kernel
theorem dX12_isSeen_48 : decode cX12_isSeen 48 = .ok (.iaload, 1) := by decide +kernel
theorem dX12_isSeen_49 : decode cX12_isSeen 49 = .ok (.aload_n 0, 1) := by decide +kernel
theorem dX12_isSeen_50 : decode cX12_isSeen 50 = .ok (.getfield 61, 3) := by decide +kernel
theorem dX12_isSeen_53 : decode cX12_isSeen 53 = .ok (.iload_n 3, 1) := by decide +kernel
theorem dX12_isSeen_54 : decode cX12_isSeen 54 = .ok (.iaload, 1) := by decide +kernel
theorem dX12_isSeen_55 : decode cX12_isSeen 55 = .ok (.if_icmp .eq 5, 3) := by decide +kernel
theorem dX12_isSeen_58 : decode cX12_isSeen 58 = .ok (.iconst 0, 1) := by decide +kernel
theorem dX12_isSeen_59 : decode cX12_isSeen 59 = .ok (.istore_n 1, 1) := by decide +kernel
theorem dX12_isSeen_60 : decode cX12_isSeen 60 = .ok (.iinc 3 1, 3) := by decide +kernel
theorem dX12_isSeen_63 : decode cX12_isSeen 63 = .ok (.goto (-43), 3) := by decide +kernel
theorem dX12_isSeen_66 : decode cX12_isSeen 66 = .ok (.iinc 2 1, 3) := by decide +kernel
theorem dX12_isSeen_69 : decode cX12_isSeen 69 = .ok (.goto (-65), 3) := by decide +kernel
theorem dX12_isSeen_72 : decode cX12_isSeen 72 = .ok (.iload_n 1, 1) := by decide +kernel
theorem dX12_isSeen_73 : decode cX12_isSeen 73 = .ok (.ireturn, 1) := by decide +kernel
theorem dX12_from_0 : decode cX12_from 0 = .ok (.aload_n 0, 1) := by decide +kernel
theorem dX12_from_1 : decode cX12_from 1 = .ok (.iload_n 1, 1) := by decide +kernel
theorem dX12_from_2 : decode cX12_from 2 = .ok (.invokevirtual 116, 3) := by decide +kernel
theorem dX12_from_5 : decode cX12_from 5 = .ok (.ifCond .ne 5, 3) := by decide +kernel
theorem dX12_from_8 : decode cX12_from 8 = .ok (.iconst (-1), 1) := by decide +kernel
theorem dX12_from_9 : decode cX12_from 9 = .ok (.ireturn, 1) := by decide +kernel
theorem dX12_from_10 : decode cX12_from 10 = .ok (.aload_n 0, 1) := by decide +kernel
theorem dX12_from_11 : decode cX12_from 11 = .ok (.aload_n 0, 1) := by decide +kernel
theorem dX12_from_12 : decode cX12_from 12 = .ok (.getfield 82, 3) := by decide +kernel
theorem dX12_from_15 : decode cX12_from 15 = .ok (.invokevirtual 253, 3) := by decide +kernel
theorem dX12_from_18 : decode cX12_from 18 = .ok (.iconst 0, 1) := by decide +kernel
theorem dX12_from_19 : decode cX12_from 19 = .ok (.istore_n 2, 1) := by decide +kernel
theorem dX12_from_20 : decode cX12_from 20 = .ok (.iconst 0, 1) := by decide +kernel
theorem dX12_from_21 : decode cX12_from 21 = .ok (.istore_n 3, 1) := by decide +kernel
theorem dX12_from_22 : decode cX12_from 22 = .ok (.iload_n 3, 1) := by decide +kernel
theorem dX12_from_23 : decode cX12_from 23 = .ok (.bipush 25, 2) := by decide +kernel
theorem dX12_from_25 : decode cX12_from 25 = .ok (.if_icmp .ge 37, 3) := by decide +kernel
theorem dX12_from_28 : decode cX12_from 28 = .ok (.aload_n 0, 1) := by decide +kernel
theorem dX12_from_29 : decode cX12_from 29 = .ok (.getfield 21, 3) := by decide +kernel
theorem dX12_from_32 : decode cX12_from 32 = .ok (.iload_n 1, 1) := by decide +kernel
theorem dX12_from_33 : decode cX12_from 33 = .ok (.iload_n 3, 1) := by decide +kernel
theorem dX12_from_34 : decode cX12_from 34 = .ok (.iastore, 1) := by decide +kernel
theorem dX12_from_35 : decode cX12_from 35 = .ok (.aload_n 0, 1) := by decide +kernel
theorem dX12_from_36 : decode cX12_from 36 = .ok (.invokevirtual 276, 3) := by decide +kernel
theorem dX12_from_39 : decode cX12_from 39 = .ok (.ifCond .eq 9, 3) := by decide +kernel
theorem dX12_from_42 : decode cX12_from 42 = .ok (.iload_n 2, 1) := by decide +kernel
theorem dX12_from_43 : decode cX12_from 43 = .ok (.iconst 1, 1) := by decide +kernel
theorem dX12_from_44 : decode cX12_from 44 = .ok (.iload_n 3, 1) := by decide +kernel
theorem dX12_from_45 : decode cX12_from 45 = .ok (.ishl, 1) := by decide +kernel
theorem dX12_from_46 : decode cX12_from 46 = .ok (.ior, 1) := by decide +kernel
theorem dX12_from_47 : decode cX12_from 47 = .ok (.istore_n 2, 1) := by decide +kernel
theorem dX12_from_48 : decode cX12_from 48 = .ok (.aload_n 0, 1) := by decide +kernel
theorem dX12_from_49 : decode cX12_from 49 = .ok (.aload_n 0, 1) := by decide +kernel
theorem dX12_from_50 : decode cX12_from 50 = .ok (.getfield 82, 3) := by decide +kernel
theorem dX12_from_53 : decode cX12_from 53 = .ok (.invokevirtual 257, 3) := by decide +kernel
theorem dX12_from_56 : decode cX12_from 56 = .ok (.iinc 3 1, 3) := by decide +kernel
theorem dX12_from_59 : decode cX12_from 59 = .ok (.goto (-37), 3) := by decide +kernel
theorem dX12_from_62 : decode cX12_from 62 = .ok (.iload_n 2, 1) := by decide +kernel
theorem dX12_from_63 : decode cX12_from 63 = .ok (.ireturn, 1) := by decide +kernel
theorem dX12_can_0 : decode cX12_can 0 = .ok (.aload_n 0, 1) := by decide +kernel
theorem dX12_can_1 : decode cX12_can 1 = .ok (.iload_n 1, 1) := by decide +kernel
theorem dX12_can_2 : decode cX12_can 2 = .ok (.invokevirtual 116, 3) := by decide +kernel
theorem dX12_can_5 : decode cX12_can 5 = .ok (.ifCond .eq 12, 3) := by decide +kernel
theorem dX12_can_8 : decode cX12_can 8 = .ok (.iload_n 2, 1) := by decide +kernel
theorem dX12_can_9 : decode cX12_can 9 = .ok (.iconst 0, 1) := by decide +kernel
theorem dX12_can_10 : decode cX12_can 10 = .ok (.iconst 1, 1) := by decide +kernel
theorem dX12_can_11 : decode cX12_can 11 = .ok (.invokestatic 108, 3) := by decide +kernel
theorem dX12_can_14 : decode cX12_can 14 = .ok (.ifCond .ne 5, 3) := by decide +kernel
theorem dX12_can_17 : decode cX12_can 17 = .ok (.iconst (-1), 1) := by decide +kernel
theorem dX12_can_18 : decode cX12_can 18 = .ok (.ireturn, 1) := by decide +kernel
theorem dX12_can_19 : decode cX12_can 19 = .ok (.aload_n 0, 1) := by decide +kernel
theorem dX12_can_20 : decode cX12_can 20 = .ok (.aload_n 0, 1) := by decide +kernel
theorem dX12_can_21 : decode cX12_can 21 = .ok (.getfield 82, 3) := by decide +kernel
theorem dX12_can_24 : decode cX12_can 24 = .ok (.invokevirtual 253, 3) := by decide +kernel
theorem dX12_can_27 : decode cX12_can 27 = .ok (.iconst 0, 1) := by decide +kernel
theorem dX12_can_28 : decode cX12_can 28 = .ok (.istore_n 3, 1) := by decide +kernel
theorem dX12_can_29 : decode cX12_can 29 = .ok (.bipush (-5), 2) := by decide +kernel
theorem dX12_can_31 : decode cX12_can 31 = .ok (.istore 4, 2) := by decide +kernel
theorem dX12_can_33 : decode cX12_can 33 = .ok (.bipush 9, 2) := by decide +kernel
theorem dX12_can_35 : decode cX12_can 35 = .ok (.istore 5, 2) := by decide +kernel
theorem dX12_can_37 : decode cX12_can 37 = .ok (.iload 5, 2) := by decide +kernel
theorem dX12_can_39 : decode cX12_can 39 = .ok (.ifCond .lt 39, 3) := by decide +kernel
theorem dX12_can_42 : decode cX12_can 42 = .ok (.aload_n 0, 1) := by decide +kernel
theorem dX12_can_43 : decode cX12_can 43 = .ok (.getfield 18, 3) := by decide +kernel
theorem dX12_can_46 : decode cX12_can 46 = .ok (.iload_n 1, 1) := by decide +kernel
theorem dX12_can_47 : decode cX12_can 47 = .ok (.iload 5, 2) := by decide +kernel
theorem dX12_can_49 : decode cX12_can 49 = .ok (.iastore, 1) := by decide +kernel
theorem dX12_can_50 : decode cX12_can 50 = .ok (.aload_n 0, 1) := by decide +kernel
theorem dX12_can_51 : decode cX12_can 51 = .ok (.invokevirtual 276, 3) := by decide +kernel
theorem dX12_can_54 : decode cX12_can 54 = .ok (.ifCond .eq 10, 3) := by decide +kernel
theorem dX12_can_57 : decode cX12_can 57 = .ok (.iinc 3 1, 3) := by decide +kernel
theorem dX12_can_60 : decode cX12_can 60 = .ok (.iload 5, 2) := by decide +kernel
theorem dX12_can_62 : decode cX12_can 62 = .ok (.istore 4, 2) := by decide +kernel
theorem dX12_can_64 : decode cX12_can 64 = .ok (.aload_n 0, 1) := by decide +kernel
theorem dX12_can_65 : decode cX12_can 65 = .ok (.aload_n 0, 1) := by decide +kernel
theorem dX12_can_66 : decode cX12_can 66 = .ok (.getfield 82, 3) := by decide +kernel
theorem dX12_can_69 : decode cX12_can 69 = .ok (.invokevirtual 257, 3) := by decide +kernel
theorem dX12_can_72 : decode cX12_can 72 = .ok (.iinc 5 (-1), 3) := by decide +kernel
theorem dX12_can_75 : decode cX12_can 75 = .ok (.goto (-38), 3) := by decide +kernel
theorem dX12_can_78 : decode cX12_can 78 = .ok (.iload_n 2, 1) := by decide +kernel
theorem dX12_can_79 : decode cX12_can 79 = .ok (.ifCond .ne 7, 3) := by decide +kernel
theorem dX12_can_82 : decode cX12_can 82 = .ok (.iload_n 3, 1) := by decide +kernel
theorem dX12_can_83 : decode cX12_can 83 = .ok (.goto 5, 3) := by decide +kernel
theorem dX12_can_86 : decode cX12_can 86 = .ok (.iload 4, 2) := by decide +kernel
theorem dX12_can_88 : decode cX12_can 88 = .ok (.ireturn, 1) := by decide +kernel
theorem dX12_part_0 : decode cX12_part 0 = .ok (.iload_n 0, 1) := by decide +kernel
theorem dX12_part_1 : decode cX12_part 1 = .ok (.istore_n 3, 1) := by decide +kernel
theorem dX12_part_2 : decode cX12_part 2 = .ok (.iload_n 1, 1) := by decide +kernel
theorem dX12_part_3 : decode cX12_part 3 = .ok (.istore 4, 2) := by decide +kernel
theorem dX12_part_5 : decode cX12_part 5 = .ok (.iload 4, 2) := by decide +kernel
theorem dX12_part_7 : decode cX12_part 7 = .ok (.ifCond .eq 19, 3) := by decide +kernel
theorem dX12_part_10 : decode cX12_part 10 = .ok (.iload_n 3, 1) := by decide +kernel
theorem dX12_part_11 : decode cX12_part 11 = .ok (.iload 4, 2) := by decide +kernel
theorem dX12_part_13 : decode cX12_part 13 = .ok (.irem, 1) := by decide +kernel
theorem dX12_part_14 : decode cX12_part 14 = .ok (.istore 5, 2) := by decide +kernel
theorem dX12_part_16 : decode cX12_part 16 = .ok (.iload 4, 2) := by decide +kernel
theorem dX12_part_18 : decode cX12_part 18 = .ok (.istore_n 3, 1) := by decide +kernel
theorem dX12_part_19 : decode cX12_part 19 = .ok (.iload 5, 2) := by decide +kernel
theorem dX12_part_21 : decode cX12_part 21 = .ok (.istore 4, 2) := by decide +kernel
theorem dX12_part_23 : decode cX12_part 23 = .ok (.goto (-18), 3) := by decide +kernel
theorem dX12_part_26 : decode cX12_part 26 = .ok (.iload_n 2, 1) := by decide +kernel
theorem dX12_part_27 : decode cX12_part 27 = .ok (.ifCond .ne 10, 3) := by decide +kernel
theorem dX12_part_30 : decode cX12_part 30 = .ok (.iload_n 0, 1) := by decide +kernel
theorem dX12_part_31 : decode cX12_part 31 = .ok (.iload_n 3, 1) := by decide +kernel
theorem dX12_part_32 : decode cX12_part 32 = .ok (.idiv, 1) := by decide +kernel
theorem dX12_part_33 : decode cX12_part 33 = .ok (.i2l, 1) := by decide +kernel
theorem dX12_part_34 : decode cX12_part 34 = .ok (.goto 7, 3) := by decide +kernel
theorem dX12_part_37 : decode cX12_part 37 = .ok (.iload_n 1, 1) := by decide +kernel
theorem dX12_part_38 : decode cX12_part 38 = .ok (.iload_n 3, 1) := by decide +kernel
theorem dX12_part_39 : decode cX12_part 39 = .ok (.idiv, 1) := by decide +kernel
theorem dX12_part_40 : decode cX12_part 40 = .ok (.i2l, 1) := by decide +kernel
theorem dX12_part_41 : decode cX12_part 41 = .ok (.lreturn, 1) := by decide +kernel
theorem dX12_odds_0 : decode cX12_odds 0 = .ok (.aload_n 0, 1) := by decide +kernel
theorem dX12_odds_1 : decode cX12_odds 1 = .ok (.iload_n 1, 1) := by decide +kernel
theorem dX12_odds_2 : decode cX12_odds 2 = .ok (.invokevirtual 116, 3) := by decide +kernel
theorem dX12_odds_5 : decode cX12_odds 5 = .ok (.ifCond .eq 19, 3) := by decide +kernel
theorem dX12_odds_8 : decode cX12_odds 8 = .ok (.iload_n 2, 1) := by decide +kernel
theorem dX12_odds_9 : decode cX12_odds 9 = .ok (.invokestatic 112, 3) := by decide +kernel
theorem dX12_odds_12 : decode cX12_odds 12 = .ok (.ifCond .eq 12, 3) := by decide +kernel
theorem dX12_odds_15 : decode cX12_odds 15 = .ok (.iload_n 3, 1) := by decide +kernel
theorem dX12_odds_16 : decode cX12_odds 16 = .ok (.iconst 0, 1) := by decide +kernel
theorem dX12_odds_17 : decode cX12_odds 17 = .ok (.iconst 1, 1) := by decide +kernel
theorem dX12_odds_18 : decode cX12_odds 18 = .ok (.invokestatic 108, 3) := by decide +kernel
theorem dX12_odds_21 : decode cX12_odds 21 = .ok (.ifCond .ne 7, 3) := by decide +kernel
theorem dX12_odds_24 : decode cX12_odds 24 = .ok (.ldc2_w 279, 3) := by decide +kernel
theorem dX12_odds_27 : decode cX12_odds 27 = .ok (.lreturn, 1) := by decide +kernel
theorem dX12_odds_28 : decode cX12_odds 28 = .ok (.iconst 0, 1) := by decide +kernel
theorem dX12_odds_29 : decode cX12_odds 29 = .ok (.istore 4, 2) := by decide +kernel
theorem dX12_odds_31 : decode cX12_odds 31 = .ok (.iconst 0, 1) := by decide +kernel
theorem dX12_odds_32 : decode cX12_odds 32 = .ok (.istore 5, 2) := by decide +kernel
theorem dX12_odds_34 : decode cX12_odds 34 = .ok (.iload 5, 2) := by decide +kernel
theorem dX12_odds_36 : decode cX12_odds 36 = .ok (.bipush 25, 2) := by decide +kernel
theorem dX12_odds_38 : decode cX12_odds 38 = .ok (.if_icmp .ge 54, 3) := by decide +kernel
theorem dX12_odds_41 : decode cX12_odds 41 = .ok (.aload_n 0, 1) := by decide +kernel
theorem dX12_odds_42 : decode cX12_odds 42 = .ok (.getfield 9, 3) := by decide +kernel
theorem dX12_odds_45 : decode cX12_odds 45 = .ok (.iload 5, 2) := by decide +kernel
theorem dX12_odds_47 : decode cX12_odds 47 = .ok (.iaload, 1) := by decide +kernel
theorem dX12_odds_48 : decode cX12_odds 48 = .ok (.istore 6, 2) := by decide +kernel
theorem dX12_odds_50 : decode cX12_odds 50 = .ok (.aload_n 0, 1) := by decide +kernel
theorem dX12_odds_51 : decode cX12_odds 51 = .ok (.getfield 9, 3) := by decide +kernel
theorem dX12_odds_54 : decode cX12_odds 54 = .ok (.iload 5, 2) := by decide +kernel
theorem dX12_odds_56 : decode cX12_odds 56 = .ok (.iload 6, 2) := by decide +kernel
theorem dX12_odds_58 : decode cX12_odds 58 = .ok (.bipush 10, 2) := by decide +kernel
theorem dX12_odds_60 : decode cX12_odds 60 = .ok (.iadd, 1) := by decide +kernel
theorem dX12_odds_61 : decode cX12_odds 61 = .ok (.invokestatic 238, 3) := by decide +kernel
theorem dX12_odds_64 : decode cX12_odds 64 = .ok (.iastore, 1) := by decide +kernel
theorem dX12_odds_65 : decode cX12_odds 65 = .ok (.aload_n 0, 1) := by decide +kernel
theorem dX12_odds_66 : decode cX12_odds 66 = .ok (.iload_n 1, 1) := by decide +kernel
theorem dX12_odds_67 : decode cX12_odds 67 = .ok (.invokevirtual 119, 3) := by decide +kernel
theorem dX12_odds_70 : decode cX12_odds 70 = .ok (.iload_n 2, 1) := by decide +kernel
theorem dX12_odds_71 : decode cX12_odds 71 = .ok (.if_icmp .ne 6, 3) := by decide +kernel
theorem dX12_odds_74 : decode cX12_odds 74 = .ok (.iinc 4 1, 3) := by decide +kernel
theorem dX12_odds_77 : decode cX12_odds 77 = .ok (.aload_n 0, 1) := by decide +kernel
theorem dX12_odds_78 : decode cX12_odds 78 = .ok (.getfield 9, 3) := by decide +kernel
theorem dX12_odds_81 : decode cX12_odds 81 = .ok (.iload 5, 2) := by decide +kernel
theorem dX12_odds_83 : decode cX12_odds 83 = .ok (.iload 6, 2) := by decide +kernel
theorem dX12_odds_85 : decode cX12_odds 85 = .ok (.iastore, 1) := by decide +kernel
theorem dX12_odds_86 : decode cX12_odds 86 = .ok (.iinc 5 1, 3) := by decide +kernel
theorem dX12_odds_89 : decode cX12_odds 89 = .ok (.goto (-55), 3) := by decide +kernel
theorem dX12_odds_92 : decode cX12_odds 92 = .ok (.iload 4, 2) := by decide +kernel
theorem dX12_odds_94 : decode cX12_odds 94 = .ok (.bipush 25, 2) := by decide +kernel
theorem dX12_odds_96 : decode cX12_odds 96 = .ok (.iload_n 3, 1) := by decide +kernel
theorem dX12_odds_97 : decode cX12_odds 97 = .ok (.invokestatic 281, 3) := by decide +kernel
theorem dX12_odds_100 : decode cX12_odds 100 = .ok (.lreturn, 1) := by decide +kernel
theorem dX12_mean_0 : decode cX12_mean 0 = .ok (.iload_n 1, 1) := by decide +kernel
theorem dX12_mean_1 : decode cX12_mean 1 = .ok (.iconst 0, 1) := by decide +kernel
theorem dX12_mean_2 : decode cX12_mean 2 = .ok (.bipush 40, 2) := by decide +kernel
theorem dX12_mean_4 : decode cX12_mean 4 = .ok (.invokestatic 108, 3) := by decide +kernel
theorem dX12_mean_7 : decode cX12_mean 7 = .ok (.ifCond .eq 12, 3) := by decide +kernel
theorem dX12_mean_10 : decode cX12_mean 10 = .ok (.iload_n 2, 1) := by decide +kernel
theorem dX12_mean_11 : decode cX12_mean 11 = .ok (.iconst 0, 1) := by decide +kernel
theorem dX12_mean_12 : decode cX12_mean 12 = .ok (.iconst 1, 1) := by decide +kernel
theorem dX12_mean_13 : decode cX12_mean 13 = .ok (.invokestatic 108, 3) := by decide +kernel
theorem dX12_mean_16 : decode cX12_mean 16 = .ok (.ifCond .ne 7, 3) := by decide +kernel
theorem dX12_mean_19 : decode cX12_mean 19 = .ok (.ldc2_w 279, 3) := by decide +kernel
theorem dX12_mean_22 : decode cX12_mean 22 = .ok (.lreturn, 1) := by decide +kernel
theorem dX12_mean_23 : decode cX12_mean 23 = .ok (.aload_n 0, 1) := by decide +kernel
theorem dX12_mean_24 : decode cX12_mean 24 = .ok (.aload_n 0, 1) := by decide +kernel
theorem dX12_mean_25 : decode cX12_mean 25 = .ok (.getfield 82, 3) := by decide +kernel
theorem dX12_mean_28 : decode cX12_mean 28 = .ok (.invokevirtual 253, 3) := by decide +kernel
theorem dX12_mean_31 : decode cX12_mean 31 = .ok (.iconst 0, 1) := by decide +kernel
theorem dX12_mean_32 : decode cX12_mean 32 = .ok (.istore_n 3, 1) := by decide +kernel
theorem dX12_mean_33 : decode cX12_mean 33 = .ok (.iload_n 3, 1) := by decide +kernel
theorem dX12_mean_34 : decode cX12_mean 34 = .ok (.iload_n 1, 1) := by decide +kernel
theorem dX12_mean_35 : decode cX12_mean 35 = .ok (.if_icmp .ge 13, 3) := by decide +kernel
theorem dX12_mean_38 : decode cX12_mean 38 = .ok (.aload_n 0, 1) := by decide +kernel
theorem dX12_mean_39 : decode cX12_mean 39 = .ok (.invokevirtual 250, 3) := by decide +kernel
theorem dX12_mean_42 : decode cX12_mean 42 = .ok (.iinc 3 1, 3) := by decide +kernel
theorem dX12_mean_45 : decode cX12_mean 45 = .ok (.goto (-12), 3) := by decide +kernel
theorem dX12_mean_48 : decode cX12_mean 48 = .ok (.aload_n 0, 1) := by decide +kernel
theorem dX12_mean_49 : decode cX12_mean 49 = .ok (.invokevirtual 244, 3) := by decide +kernel
theorem dX12_mean_52 : decode cX12_mean 52 = .ok (.istore_n 3, 1) := by decide +kernel
theorem dX12_mean_53 : decode cX12_mean 53 = .ok (.aload_n 0, 1) := by decide +kernel
theorem dX12_mean_54 : decode cX12_mean 54 = .ok (.aload_n 0, 1) := by decide +kernel
theorem dX12_mean_55 : decode cX12_mean 55 = .ok (.getfield 82, 3) := by decide +kernel
theorem dX12_mean_58 : decode cX12_mean 58 = .ok (.invokevirtual 257, 3) := by decide +kernel
theorem dX12_mean_61 : decode cX12_mean 61 = .ok (.iload_n 3, 1) := by decide +kernel
theorem dX12_mean_62 : decode cX12_mean 62 = .ok (.bipush 25, 2) := by decide +kernel
theorem dX12_mean_64 : decode cX12_mean 64 = .ok (.iload_n 2, 1) := by decide +kernel
theorem dX12_mean_65 : decode cX12_mean 65 = .ok (.invokestatic 281, 3) := by decide +kernel
theorem dX12_mean_68 : decode cX12_mean 68 = .ok (.lreturn, 1) := by decide +kernel
theorem dX12_plan_0 : decode cX12_plan 0 = .ok (.iload_n 1, 1) := by decide +kernel
theorem dX12_plan_1 : decode cX12_plan 1 = .ok (.iconst (-1), 1) := by decide +kernel
theorem dX12_plan_2 : decode cX12_plan 2 = .ok (.if_icmp .ne 10, 3) := by decide +kernel
theorem dX12_plan_5 : decode cX12_plan 5 = .ok (.aload_n 0, 1) := by decide +kernel
theorem dX12_plan_6 : decode cX12_plan 6 = .ok (.iconst 0, 1) := by decide +kernel
theorem dX12_plan_7 : decode cX12_plan 7 = .ok (.putfield 285, 3) := by decide +kernel
theorem dX12_plan_10 : decode cX12_plan 10 = .ok (.iconst 0, 1) := by decide +kernel
theorem dX12_plan_11 : decode cX12_plan 11 = .ok (.ireturn, 1) := by decide +kernel
theorem dX12_plan_12 : decode cX12_plan 12 = .ok (.iload_n 1, 1) := by decide +kernel
theorem dX12_plan_13 : decode cX12_plan 13 = .ok (.iconst 0, 1) := by decide +kernel
theorem dX12_plan_14 : decode cX12_plan 14 = .ok (.iconst 3, 1) := by decide +kernel
theorem dX12_plan_15 : decode cX12_plan 15 = .ok (.invokestatic 108, 3) := by decide +kernel
theorem dX12_plan_18 : decode cX12_plan 18 = .ok (.ifCond .eq 28, 3) := by decide +kernel
theorem dX12_plan_21 : decode cX12_plan 21 = .ok (.iload_n 1, 1) := by decide +kernel
theorem dX12_plan_22 : decode cX12_plan 22 = .ok (.iconst 1, 1) := by decide +kernel
theorem dX12_plan_23 : decode cX12_plan 23 = .ok (.if_icmp .ne 10, 3) := by decide +kernel
theorem dX12_plan_26 : decode cX12_plan 26 = .ok (.iload_n 2, 1) := by decide +kernel
theorem dX12_plan_27 : decode cX12_plan 27 = .ok (.invokestatic 112, 3) := by decide +kernel
theorem dX12_plan_30 : decode cX12_plan 30 = .ok (.ifCond .eq 16, 3) := by decide +kernel
theorem dX12_plan_33 : decode cX12_plan 33 = .ok (.iload_n 1, 1) := by decide +kernel
theorem dX12_plan_34 : decode cX12_plan 34 = .ok (.iconst 1, 1) := by decide +kernel
theorem dX12_plan_35 : decode cX12_plan 35 = .ok (.if_icmp .le 13, 3) := by decide +kernel
theorem dX12_plan_38 : decode cX12_plan 38 = .ok (.aload_n 0, 1) := by decide +kernel
theorem dX12_plan_39 : decode cX12_plan 39 = .ok (.iload_n 2, 1) := by decide +kernel
theorem dX12_plan_40 : decode cX12_plan 40 = .ok (.invokevirtual 116, 3) := by decide +kernel
theorem dX12_plan_43 : decode cX12_plan 43 = .ok (.ifCond .ne 5, 3) := by decide +kernel
theorem dX12_plan_46 : decode cX12_plan 46 = .ok (.iconst (-1), 1) := by decide +kernel
theorem dX12_plan_47 : decode cX12_plan 47 = .ok (.ireturn, 1) := by decide +kernel
theorem dX12_plan_48 : decode cX12_plan 48 = .ok (.aload_n 0, 1) := by decide +kernel
theorem dX12_plan_49 : decode cX12_plan 49 = .ok (.getfield 285, 3) := by decide +kernel
theorem dX12_plan_52 : decode cX12_plan 52 = .ok (.bipush 10, 2) := by decide +kernel
theorem dX12_plan_54 : decode cX12_plan 54 = .ok (.if_icmp .ne 6, 3) := by decide +kernel
theorem dX12_plan_57 : decode cX12_plan 57 = .ok (.bipush (-4), 2) := by decide +kernel
theorem dX12_plan_59 : decode cX12_plan 59 = .ok (.ireturn, 1) := by decide +kernel
theorem dX12_plan_60 : decode cX12_plan 60 = .ok (.aload_n 0, 1) := by decide +kernel
theorem dX12_plan_61 : decode cX12_plan 61 = .ok (.getfield 64, 3) := by decide +kernel
theorem dX12_plan_64 : decode cX12_plan 64 = .ok (.aload_n 0, 1) := by decide +kernel
theorem dX12_plan_65 : decode cX12_plan 65 = .ok (.getfield 285, 3) := by decide +kernel
theorem dX12_plan_68 : decode cX12_plan 68 = .ok (.iload_n 1, 1) := by decide +kernel
theorem dX12_plan_69 : decode cX12_plan 69 = .ok (.iastore, 1) := by decide +kernel
theorem dX12_plan_70 : decode cX12_plan 70 = .ok (.aload_n 0, 1) := by decide +kernel
theorem dX12_plan_71 : decode cX12_plan 71 = .ok (.getfield 67, 3) := by decide +kernel
theorem dX12_plan_74 : decode cX12_plan 74 = .ok (.aload_n 0, 1) := by decide +kernel
theorem dX12_plan_75 : decode cX12_plan 75 = .ok (.dup, 1) := by decide +kernel
theorem dX12_plan_76 : decode cX12_plan 76 = .ok (.getfield 285, 3) := by decide +kernel
theorem dX12_plan_79 : decode cX12_plan 79 = .ok (.dup_x1, 1) := by decide +kernel
theorem dX12_plan_80 : decode cX12_plan 80 = .ok (.iconst 1, 1) := by decide +kernel
theorem dX12_plan_81 : decode cX12_plan 81 = .ok (.iadd, 1) := by decide +kernel
theorem dX12_plan_82 : decode cX12_plan 82 = .ok (.putfield 285, 3) := by decide +kernel
theorem dX12_plan_85 : decode cX12_plan 85 = .ok (.iload_n 1, 1) := by decide +kernel
theorem dX12_plan_86 : decode cX12_plan 86 = .ok (.ifCond .ne 7, 3) := by decide +kernel
theorem dX12_plan_89 : decode cX12_plan 89 = .ok (.iconst 0, 1) := by decide +kernel
theorem dX12_plan_90 : decode cX12_plan 90 = .ok (.goto 4, 3) := by decide +kernel
theorem dX12_plan_93 : decode cX12_plan 93 = .ok (.iload_n 2, 1) := by decide +kernel
theorem dX12_plan_94 : decode cX12_plan 94 = .ok (.iastore, 1) := by decide +kernel
theorem dX12_plan_95 : decode cX12_plan 95 = .ok (.aload_n 0, 1) := by decide +kernel
theorem dX12_plan_96 : decode cX12_plan 96 = .ok (.getfield 285, 3) := by decide +kernel
theorem dX12_plan_99 : decode cX12_plan 99 = .ok (.ireturn, 1) := by decide +kernel
theorem dX12_ends_0 : decode cX12_ends 0 = .ok (.iload_n 1, 1) := by decide +kernel
theorem dX12_ends_1 : decode cX12_ends 1 = .ok (.iconst 0, 1) := by decide +kernel
theorem dX12_ends_2 : decode cX12_ends 2 = .ok (.iconst 1, 1) := by decide +kernel
theorem dX12_ends_3 : decode cX12_ends 3 = .ok (.invokestatic 108, 3) := by decide +kernel
theorem dX12_ends_6 : decode cX12_ends 6 = .ok (.ifCond .ne 5, 3) := by decide +kernel
theorem dX12_ends_9 : decode cX12_ends 9 = .ok (.iconst (-1), 1) := by decide +kernel
theorem dX12_ends_10 : decode cX12_ends 10 = .ok (.ireturn, 1) := by decide +kernel
theorem dX12_ends_11 : decode cX12_ends 11 = .ok (.aload_n 0, 1) := by decide +kernel
theorem dX12_ends_12 : decode cX12_ends 12 = .ok (.aload_n 0, 1) := by decide +kernel
theorem dX12_ends_13 : decode cX12_ends 13 = .ok (.getfield 82, 3) := by decide +kernel
theorem dX12_ends_16 : decode cX12_ends 16 = .ok (.invokevirtual 253, 3) := by decide +kernel
theorem dX12_ends_19 : decode cX12_ends 19 = .ok (.iconst 0, 1) := by decide +kernel
theorem dX12_ends_20 : decode cX12_ends 20 = .ok (.istore_n 2, 1) := by decide +kernel
theorem dX12_ends_21 : decode cX12_ends 21 = .ok (.iload_n 2, 1) := by decide +kernel
theorem dX12_ends_22 : decode cX12_ends 22 = .ok (.aload_n 0, 1) := by decide +kernel
theorem dX12_ends_23 : decode cX12_ends 23 = .ok (.getfield 285, 3) := by decide +kernel
theorem dX12_ends_26 : decode cX12_ends 26 = .ok (.if_icmp .ge 84, 3) := by decide +kernel
theorem dX12_ends_29 : decode cX12_ends 29 = .ok (.aload_n 0, 1) := by decide +kernel
theorem dX12_ends_30 : decode cX12_ends 30 = .ok (.getfield 67, 3) := by decide +kernel
theorem dX12_ends_33 : decode cX12_ends 33 = .ok (.iload_n 2, 1) := by decide +kernel
theorem dX12_ends_34 : decode cX12_ends 34 = .ok (.iaload, 1) := by decide +kernel
theorem dX12_ends_35 : decode cX12_ends 35 = .ok (.istore_n 3, 1) := by decide +kernel
theorem dX12_ends_36 : decode cX12_ends 36 = .ok (.aload_n 0, 1) := by decide +kernel
theorem dX12_ends_37 : decode cX12_ends 37 = .ok (.getfield 64, 3) := by decide +kernel
theorem dX12_ends_40 : decode cX12_ends 40 = .ok (.iload_n 2, 1) := by decide +kernel
theorem dX12_ends_41 : decode cX12_ends 41 = .ok (.iaload, 1) := by decide +kernel
theorem dX12_ends_42 : decode cX12_ends 42 = .ok (.ifCond .ne 10, 3) := by decide +kernel
theorem dX12_ends_45 : decode cX12_ends 45 = .ok (.aload_n 0, 1) := by decide +kernel
theorem dX12_ends_46 : decode cX12_ends 46 = .ok (.invokevirtual 250, 3) := by decide +kernel
end
section
theorem dX12_ends_49 : decode cX12_ends 49 = .ok (.goto 55, 3) := by decide +kernel
theorem dX12_ends_52 : decode cX12_ends 52 = .ok (.aload_n 0, 1) := by decide +kernel
theorem dX12_ends_53 : decode cX12_ends 53 = .ok (.getfield 64, 3) := by decide +kernel
theorem dX12_ends_56 : decode cX12_ends 56 = .ok (.iload_n 2, 1) := by decide +kernel
theorem dX12_ends_57 : decode cX12_ends 57 = .ok (.iaload, 1) := by decide +kernel
theorem dX12_ends_58 : decode cX12_ends 58 = .ok (.iconst 1, 1) := by decide +kernel
theorem dX12_ends_59 : decode cX12_ends 59 = .ok (.if_icmp .ne 24, 3) := by decide +kernel
theorem dX12_ends_62 : decode cX12_ends 62 = .ok (.aload_n 0, 1) := by decide +kernel
theorem dX12_ends_63 : decode cX12_ends 63 = .ok (.getfield 9, 3) := by decide +kernel
theorem dX12_ends_66 : decode cX12_ends 66 = .ok (.iload_n 3, 1) := by decide +kernel
theorem dX12_ends_67 : decode cX12_ends 67 = .ok (.aload_n 0, 1) := by decide +kernel
theorem dX12_ends_68 : decode cX12_ends 68 = .ok (.getfield 9, 3) := by decide +kernel
theorem dX12_ends_71 : decode cX12_ends 71 = .ok (.iload_n 3, 1) := by decide +kernel
theorem dX12_ends_72 : decode cX12_ends 72 = .ok (.iaload, 1) := by decide +kernel
theorem dX12_ends_73 : decode cX12_ends 73 = .ok (.bipush 10, 2) := by decide +kernel
theorem dX12_ends_75 : decode cX12_ends 75 = .ok (.iadd, 1) := by decide +kernel
theorem dX12_ends_76 : decode cX12_ends 76 = .ok (.invokestatic 238, 3) := by decide +kernel
theorem dX12_ends_79 : decode cX12_ends 79 = .ok (.iastore, 1) := by decide +kernel
theorem dX12_ends_80 : decode cX12_ends 80 = .ok (.goto 24, 3) := by decide +kernel
theorem dX12_ends_83 : decode cX12_ends 83 = .ok (.aload_n 0, 1) := by decide +kernel
theorem dX12_ends_84 : decode cX12_ends 84 = .ok (.getfield 24, 3) := by decide +kernel
theorem dX12_ends_87 : decode cX12_ends 87 = .ok (.iload_n 3, 1) := by decide +kernel
theorem dX12_ends_88 : decode cX12_ends 88 = .ok (.aload_n 0, 1) := by decide +kernel
theorem dX12_ends_89 : decode cX12_ends 89 = .ok (.getfield 64, 3) := by decide +kernel
theorem dX12_ends_92 : decode cX12_ends 92 = .ok (.iload_n 2, 1) := by decide +kernel
theorem dX12_ends_93 : decode cX12_ends 93 = .ok (.iaload, 1) := by decide +kernel
theorem dX12_ends_94 : decode cX12_ends 94 = .ok (.iconst 2, 1) := by decide +kernel
theorem dX12_ends_95 : decode cX12_ends 95 = .ok (.if_icmp .ne 7, 3) := by decide +kernel
theorem dX12_ends_98 : decode cX12_ends 98 = .ok (.iconst 1, 1) := by decide +kernel
theorem dX12_ends_99 : decode cX12_ends 99 = .ok (.goto 4, 3) := by decide +kernel
theorem dX12_ends_102 : decode cX12_ends 102 = .ok (.iconst 0, 1) := by decide +kernel
theorem dX12_ends_103 : decode cX12_ends 103 = .ok (.iastore, 1) := by decide +kernel
theorem dX12_ends_104 : decode cX12_ends 104 = .ok (.iinc 2 1, 3) := by decide +kernel
theorem dX12_ends_107 : decode cX12_ends 107 = .ok (.goto (-86), 3) := by decide +kernel
theorem dX12_ends_110 : decode cX12_ends 110 = .ok (.iload_n 1, 1) := by decide +kernel
theorem dX12_ends_111 : decode cX12_ends 111 = .ok (.ifCond .ne 10, 3) := by decide +kernel
theorem dX12_ends_114 : decode cX12_ends 114 = .ok (.aload_n 0, 1) := by decide +kernel
theorem dX12_ends_115 : decode cX12_ends 115 = .ok (.invokevirtual 244, 3) := by decide +kernel
theorem dX12_ends_118 : decode cX12_ends 118 = .ok (.goto 7, 3) := by decide +kernel
theorem dX12_ends_121 : decode cX12_ends 121 = .ok (.aload_n 0, 1) := by decide +kernel
theorem dX12_ends_122 : decode cX12_ends 122 = .ok (.invokevirtual 241, 3) := by decide +kernel
theorem dX12_ends_125 : decode cX12_ends 125 = .ok (.istore_n 2, 1) := by decide +kernel
theorem dX12_ends_126 : decode cX12_ends 126 = .ok (.aload_n 0, 1) := by decide +kernel
theorem dX12_ends_127 : decode cX12_ends 127 = .ok (.aload_n 0, 1) := by decide +kernel
theorem dX12_ends_128 : decode cX12_ends 128 = .ok (.getfield 82, 3) := by decide +kernel
theorem dX12_ends_131 : decode cX12_ends 131 = .ok (.invokevirtual 257, 3) := by decide +kernel
theorem dX12_ends_134 : decode cX12_ends 134 = .ok (.iload_n 2, 1) := by decide +kernel
theorem dX12_ends_135 : decode cX12_ends 135 = .ok (.ireturn, 1) := by decide +kernel
theorem dX12_book_0 : decode cX12_book 0 = .ok (.iload_n 1, 1) := by decide +kernel
theorem dX12_book_1 : decode cX12_book 1 = .ok (.iconst (-1), 1) := by decide +kernel
theorem dX12_book_2 : decode cX12_book 2 = .ok (.if_icmp .ne 10, 3) := by decide +kernel
theorem dX12_book_5 : decode cX12_book 5 = .ok (.aload_n 0, 1) := by decide +kernel
theorem dX12_book_6 : decode cX12_book 6 = .ok (.iconst 0, 1) := by decide +kernel
theorem dX12_book_7 : decode cX12_book 7 = .ok (.putfield 288, 3) := by decide +kernel
theorem dX12_book_10 : decode cX12_book 10 = .ok (.iconst 0, 1) := by decide +kernel
theorem dX12_book_11 : decode cX12_book 11 = .ok (.ireturn, 1) := by decide +kernel
theorem dX12_book_12 : decode cX12_book 12 = .ok (.aload_n 0, 1) := by decide +kernel
theorem dX12_book_13 : decode cX12_book 13 = .ok (.iload_n 1, 1) := by decide +kernel
theorem dX12_book_14 : decode cX12_book 14 = .ok (.invokevirtual 116, 3) := by decide +kernel
theorem dX12_book_17 : decode cX12_book 17 = .ok (.ifCond .eq 10, 3) := by decide +kernel
theorem dX12_book_20 : decode cX12_book 20 = .ok (.iload_n 2, 1) := by decide +kernel
theorem dX12_book_21 : decode cX12_book 21 = .ok (.invokestatic 112, 3) := by decide +kernel
theorem dX12_book_24 : decode cX12_book 24 = .ok (.ifCond .ne 5, 3) := by decide +kernel
theorem dX12_book_27 : decode cX12_book 27 = .ok (.iconst (-1), 1) := by decide +kernel
theorem dX12_book_28 : decode cX12_book 28 = .ok (.ireturn, 1) := by decide +kernel
theorem dX12_book_29 : decode cX12_book 29 = .ok (.aload_n 0, 1) := by decide +kernel
theorem dX12_book_30 : decode cX12_book 30 = .ok (.getfield 288, 3) := by decide +kernel
theorem dX12_book_33 : decode cX12_book 33 = .ok (.bipush 8, 2) := by decide +kernel
theorem dX12_book_35 : decode cX12_book 35 = .ok (.if_icmp .ne 6, 3) := by decide +kernel
theorem dX12_book_38 : decode cX12_book 38 = .ok (.bipush (-4), 2) := by decide +kernel
theorem dX12_book_40 : decode cX12_book 40 = .ok (.ireturn, 1) := by decide +kernel
theorem dX12_book_41 : decode cX12_book 41 = .ok (.aload_n 0, 1) := by decide +kernel
theorem dX12_book_42 : decode cX12_book 42 = .ok (.getfield 70, 3) := by decide +kernel
theorem dX12_book_45 : decode cX12_book 45 = .ok (.aload_n 0, 1) := by decide +kernel
theorem dX12_book_46 : decode cX12_book 46 = .ok (.getfield 288, 3) := by decide +kernel
theorem dX12_book_49 : decode cX12_book 49 = .ok (.iload_n 1, 1) := by decide +kernel
theorem dX12_book_50 : decode cX12_book 50 = .ok (.iastore, 1) := by decide +kernel
theorem dX12_book_51 : decode cX12_book 51 = .ok (.aload_n 0, 1) := by decide +kernel
theorem dX12_book_52 : decode cX12_book 52 = .ok (.getfield 73, 3) := by decide +kernel
theorem dX12_book_55 : decode cX12_book 55 = .ok (.aload_n 0, 1) := by decide +kernel
theorem dX12_book_56 : decode cX12_book 56 = .ok (.dup, 1) := by decide +kernel
theorem dX12_book_57 : decode cX12_book 57 = .ok (.getfield 288, 3) := by decide +kernel
theorem dX12_book_60 : decode cX12_book 60 = .ok (.dup_x1, 1) := by decide +kernel
theorem dX12_book_61 : decode cX12_book 61 = .ok (.iconst 1, 1) := by decide +kernel
theorem dX12_book_62 : decode cX12_book 62 = .ok (.iadd, 1) := by decide +kernel
theorem dX12_book_63 : decode cX12_book 63 = .ok (.putfield 288, 3) := by decide +kernel
theorem dX12_book_66 : decode cX12_book 66 = .ok (.iload_n 2, 1) := by decide +kernel
theorem dX12_book_67 : decode cX12_book 67 = .ok (.iastore, 1) := by decide +kernel
theorem dX12_book_68 : decode cX12_book 68 = .ok (.aload_n 0, 1) := by decide +kernel
theorem dX12_book_69 : decode cX12_book 69 = .ok (.getfield 288, 3) := by decide +kernel
theorem dX12_book_72 : decode cX12_book 72 = .ok (.ireturn, 1) := by decide +kernel
theorem dX12_looked_0 : decode cX12_looked 0 = .ok (.iconst 0, 1) := by decide +kernel
theorem dX12_looked_1 : decode cX12_looked 1 = .ok (.istore_n 1, 1) := by decide +kernel
theorem dX12_looked_2 : decode cX12_looked 2 = .ok (.iload_n 1, 1) := by decide +kernel
theorem dX12_looked_3 : decode cX12_looked 3 = .ok (.aload_n 0, 1) := by decide +kernel
theorem dX12_looked_4 : decode cX12_looked 4 = .ok (.getfield 288, 3) := by decide +kernel
theorem dX12_looked_7 : decode cX12_looked 7 = .ok (.if_icmp .ge 31, 3) := by decide +kernel
theorem dX12_looked_10 : decode cX12_looked 10 = .ok (.aload_n 0, 1) := by decide +kernel
theorem dX12_looked_11 : decode cX12_looked 11 = .ok (.getfield 21, 3) := by decide +kernel
theorem dX12_looked_14 : decode cX12_looked 14 = .ok (.aload_n 0, 1) := by decide +kernel
theorem dX12_looked_15 : decode cX12_looked 15 = .ok (.getfield 70, 3) := by decide +kernel
theorem dX12_looked_18 : decode cX12_looked 18 = .ok (.iload_n 1, 1) := by decide +kernel
theorem dX12_looked_19 : decode cX12_looked 19 = .ok (.iaload, 1) := by decide +kernel
theorem dX12_looked_20 : decode cX12_looked 20 = .ok (.iaload, 1) := by decide +kernel
theorem dX12_looked_21 : decode cX12_looked 21 = .ok (.aload_n 0, 1) := by decide +kernel
theorem dX12_looked_22 : decode cX12_looked 22 = .ok (.getfield 73, 3) := by decide +kernel
theorem dX12_looked_25 : decode cX12_looked 25 = .ok (.iload_n 1, 1) := by decide +kernel
theorem dX12_looked_26 : decode cX12_looked 26 = .ok (.iaload, 1) := by decide +kernel
theorem dX12_looked_27 : decode cX12_looked 27 = .ok (.if_icmp .eq 5, 3) := by decide +kernel
theorem dX12_looked_30 : decode cX12_looked 30 = .ok (.iload_n 1, 1) := by decide +kernel
theorem dX12_looked_31 : decode cX12_looked 31 = .ok (.ireturn, 1) := by decide +kernel
theorem dX12_looked_32 : decode cX12_looked 32 = .ok (.iinc 1 1, 3) := by decide +kernel
theorem dX12_looked_35 : decode cX12_looked 35 = .ok (.goto (-33), 3) := by decide +kernel
theorem dX12_looked_38 : decode cX12_looked 38 = .ok (.bipush (-5), 2) := by decide +kernel
theorem dX12_looked_40 : decode cX12_looked 40 = .ok (.ireturn, 1) := by decide +kernel
theorem dX12_judge_0 : decode cX12_judge 0 = .ok (.iload_n 1, 1) := by decide +kernel
theorem dX12_judge_1 : decode cX12_judge 1 = .ok (.iconst 0, 1) := by decide +kernel
theorem dX12_judge_2 : decode cX12_judge 2 = .ok (.iconst 5, 1) := by decide +kernel
theorem dX12_judge_3 : decode cX12_judge 3 = .ok (.invokestatic 108, 3) := by decide +kernel
theorem dX12_judge_6 : decode cX12_judge 6 = .ok (.ifCond .ne 5, 3) := by decide +kernel
theorem dX12_judge_9 : decode cX12_judge 9 = .ok (.iconst (-1), 1) := by decide +kernel
theorem dX12_judge_10 : decode cX12_judge 10 = .ok (.ireturn, 1) := by decide +kernel
theorem dX12_judge_11 : decode cX12_judge 11 = .ok (.aload_n 0, 1) := by decide +kernel
theorem dX12_judge_12 : decode cX12_judge 12 = .ok (.getfield 91, 3) := by decide +kernel
theorem dX12_judge_15 : decode cX12_judge 15 = .ok (.iload_n 1, 1) := by decide +kernel
theorem dX12_judge_16 : decode cX12_judge 16 = .ok (.iaload, 1) := by decide +kernel
theorem dX12_judge_17 : decode cX12_judge 17 = .ok (.iconst (-1), 1) := by decide +kernel
theorem dX12_judge_18 : decode cX12_judge 18 = .ok (.if_icmp .eq 15, 3) := by decide +kernel
theorem dX12_judge_21 : decode cX12_judge 21 = .ok (.aload_n 0, 1) := by decide +kernel
theorem dX12_judge_22 : decode cX12_judge 22 = .ok (.getfield 91, 3) := by decide +kernel
theorem dX12_judge_25 : decode cX12_judge 25 = .ok (.iload_n 1, 1) := by decide +kernel
theorem dX12_judge_26 : decode cX12_judge 26 = .ok (.iaload, 1) := by decide +kernel
theorem dX12_judge_27 : decode cX12_judge 27 = .ok (.ifCond .eq 6, 3) := by decide +kernel
theorem dX12_judge_30 : decode cX12_judge 30 = .ok (.bipush (-12), 2) := by decide +kernel
theorem dX12_judge_32 : decode cX12_judge 32 = .ok (.ireturn, 1) := by decide +kernel
theorem dX12_judge_33 : decode cX12_judge 33 = .ok (.iconst 0, 1) := by decide +kernel
theorem dX12_judge_34 : decode cX12_judge 34 = .ok (.istore_n 3, 1) := by decide +kernel
theorem dX12_judge_35 : decode cX12_judge 35 = .ok (.iload_n 3, 1) := by decide +kernel
theorem dX12_judge_36 : decode cX12_judge 36 = .ok (.bipush 25, 2) := by decide +kernel
theorem dX12_judge_38 : decode cX12_judge 38 = .ok (.if_icmp .ge 70, 3) := by decide +kernel
theorem dX12_judge_41 : decode cX12_judge 41 = .ok (.aload_n 0, 1) := by decide +kernel
theorem dX12_judge_42 : decode cX12_judge 42 = .ok (.getfield 91, 3) := by decide +kernel
theorem dX12_judge_45 : decode cX12_judge 45 = .ok (.iload_n 1, 1) := by decide +kernel
theorem dX12_judge_46 : decode cX12_judge 46 = .ok (.iaload, 1) := by decide +kernel
theorem dX12_judge_47 : decode cX12_judge 47 = .ok (.iconst (-1), 1) := by decide +kernel
theorem dX12_judge_48 : decode cX12_judge 48 = .ok (.if_icmp .eq 23, 3) := by decide +kernel
theorem dX12_judge_51 : decode cX12_judge 51 = .ok (.iload_n 2, 1) := by decide +kernel
theorem dX12_judge_52 : decode cX12_judge 52 = .ok (.ifCond .lt 19, 3) := by decide +kernel
theorem dX12_judge_55 : decode cX12_judge 55 = .ok (.iload_n 2, 1) := by decide +kernel
theorem dX12_judge_56 : decode cX12_judge 56 = .ok (.i2l, 1) := by decide +kernel
theorem dX12_judge_57 : decode cX12_judge 57 = .ok (.iload_n 3, 1) := by decide +kernel
theorem dX12_judge_58 : decode cX12_judge 58 = .ok (.i2l, 1) := by decide +kernel
theorem dX12_judge_59 : decode cX12_judge 59 = .ok (.ladd, 1) := by decide +kernel
theorem dX12_judge_60 : decode cX12_judge 60 = .ok (.aload_n 0, 1) := by decide +kernel
theorem dX12_judge_61 : decode cX12_judge 61 = .ok (.getfield 94, 3) := by decide +kernel
theorem dX12_judge_64 : decode cX12_judge 64 = .ok (.iload_n 1, 1) := by decide +kernel
theorem dX12_judge_65 : decode cX12_judge 65 = .ok (.iaload, 1) := by decide +kernel
theorem dX12_judge_66 : decode cX12_judge 66 = .ok (.i2l, 1) := by decide +kernel
theorem dX12_judge_67 : decode cX12_judge 67 = .ok (.lcmp, 1) := by decide +kernel
theorem dX12_judge_68 : decode cX12_judge 68 = .ok (.ifCond .lt 8, 3) := by decide +kernel
theorem dX12_judge_71 : decode cX12_judge 71 = .ok (.bipush 100, 2) := by decide +kernel
theorem dX12_judge_73 : decode cX12_judge 73 = .ok (.iload_n 3, 1) := by decide +kernel
theorem dX12_judge_74 : decode cX12_judge 74 = .ok (.iadd, 1) := by decide +kernel
theorem dX12_judge_75 : decode cX12_judge 75 = .ok (.ireturn, 1) := by decide +kernel
theorem dX12_judge_76 : decode cX12_judge 76 = .ok (.aload_n 0, 1) := by decide +kernel
theorem dX12_judge_77 : decode cX12_judge 77 = .ok (.getfield 97, 3) := by decide +kernel
theorem dX12_judge_80 : decode cX12_judge 80 = .ok (.bipush 60, 2) := by decide +kernel
theorem dX12_judge_82 : decode cX12_judge 82 = .ok (.iload_n 1, 1) := by decide +kernel
theorem dX12_judge_83 : decode cX12_judge 83 = .ok (.imul, 1) := by decide +kernel
theorem dX12_judge_84 : decode cX12_judge 84 = .ok (.iload_n 2, 1) := by decide +kernel
theorem dX12_judge_85 : decode cX12_judge 85 = .ok (.iadd, 1) := by decide +kernel
theorem dX12_judge_86 : decode cX12_judge 86 = .ok (.iload_n 3, 1) := by decide +kernel
theorem dX12_judge_87 : decode cX12_judge 87 = .ok (.iadd, 1) := by decide +kernel
theorem dX12_judge_88 : decode cX12_judge 88 = .ok (.laload, 1) := by decide +kernel
theorem dX12_judge_89 : decode cX12_judge 89 = .ok (.aload_n 0, 1) := by decide +kernel
theorem dX12_judge_90 : decode cX12_judge 90 = .ok (.getfield 9, 3) := by decide +kernel
theorem dX12_judge_93 : decode cX12_judge 93 = .ok (.iload_n 3, 1) := by decide +kernel
theorem dX12_judge_94 : decode cX12_judge 94 = .ok (.iaload, 1) := by decide +kernel
theorem dX12_judge_95 : decode cX12_judge 95 = .ok (.i2l, 1) := by decide +kernel
theorem dX12_judge_96 : decode cX12_judge 96 = .ok (.lcmp, 1) := by decide +kernel
theorem dX12_judge_97 : decode cX12_judge 97 = .ok (.ifCond .eq 5, 3) := by decide +kernel
theorem dX12_judge_100 : decode cX12_judge 100 = .ok (.iload_n 3, 1) := by decide +kernel
theorem dX12_judge_101 : decode cX12_judge 101 = .ok (.ireturn, 1) := by decide +kernel
theorem dX12_judge_102 : decode cX12_judge 102 = .ok (.iinc 3 1, 3) := by decide +kernel
theorem dX12_judge_105 : decode cX12_judge 105 = .ok (.goto (-70), 3) := by decide +kernel
theorem dX12_judge_108 : decode cX12_judge 108 = .ok (.bipush (-5), 2) := by decide +kernel
theorem dX12_judge_110 : decode cX12_judge 110 = .ok (.ireturn, 1) := by decide +kernel
theorem dX12_keep_0 : decode cX12_keep 0 = .ok (.iconst 0, 1) := by decide +kernel
theorem dX12_keep_1 : decode cX12_keep 1 = .ok (.istore_n 2, 1) := by decide +kernel
theorem dX12_keep_2 : decode cX12_keep 2 = .ok (.iload_n 2, 1) := by decide +kernel
theorem dX12_keep_3 : decode cX12_keep 3 = .ok (.bipush 25, 2) := by decide +kernel
theorem dX12_keep_5 : decode cX12_keep 5 = .ok (.if_icmp .ge 18, 3) := by decide +kernel
theorem dX12_keep_8 : decode cX12_keep 8 = .ok (.aload_n 1, 1) := by decide +kernel
theorem dX12_keep_9 : decode cX12_keep 9 = .ok (.iload_n 2, 1) := by decide +kernel
theorem dX12_keep_10 : decode cX12_keep 10 = .ok (.aload_n 0, 1) := by decide +kernel
theorem dX12_keep_11 : decode cX12_keep 11 = .ok (.getfield 9, 3) := by decide +kernel
theorem dX12_keep_14 : decode cX12_keep 14 = .ok (.iload_n 2, 1) := by decide +kernel
theorem dX12_keep_15 : decode cX12_keep 15 = .ok (.iaload, 1) := by decide +kernel
theorem dX12_keep_16 : decode cX12_keep 16 = .ok (.iastore, 1) := by decide +kernel
theorem dX12_keep_17 : decode cX12_keep 17 = .ok (.iinc 2 1, 3) := by decide +kernel
theorem dX12_keep_20 : decode cX12_keep 20 = .ok (.goto (-18), 3) := by decide +kernel
theorem dX12_keep_23 : decode cX12_keep 23 = .ok (.iconst 0, 1) := by decide +kernel
theorem dX12_keep_24 : decode cX12_keep 24 = .ok (.istore_n 2, 1) := by decide +kernel
theorem dX12_keep_25 : decode cX12_keep 25 = .ok (.iload_n 2, 1) := by decide +kernel
theorem dX12_keep_26 : decode cX12_keep 26 = .ok (.bipush 6, 2) := by decide +kernel
theorem dX12_keep_28 : decode cX12_keep 28 = .ok (.if_icmp .ge 57, 3) := by decide +kernel
theorem dX12_keep_31 : decode cX12_keep 31 = .ok (.aload_n 1, 1) := by decide +kernel
theorem dX12_keep_32 : decode cX12_keep 32 = .ok (.bipush 25, 2) := by decide +kernel
theorem dX12_keep_34 : decode cX12_keep 34 = .ok (.iload_n 2, 1) := by decide +kernel
theorem dX12_keep_35 : decode cX12_keep 35 = .ok (.iadd, 1) := by decide +kernel
theorem dX12_keep_36 : decode cX12_keep 36 = .ok (.aload_n 0, 1) := by decide +kernel
theorem dX12_keep_37 : decode cX12_keep 37 = .ok (.getfield 15, 3) := by decide +kernel
theorem dX12_keep_40 : decode cX12_keep 40 = .ok (.iload_n 2, 1) := by decide +kernel
theorem dX12_keep_41 : decode cX12_keep 41 = .ok (.iaload, 1) := by decide +kernel
theorem dX12_keep_42 : decode cX12_keep 42 = .ok (.iastore, 1) := by decide +kernel
theorem dX12_keep_43 : decode cX12_keep 43 = .ok (.aload_n 1, 1) := by decide +kernel
theorem dX12_keep_44 : decode cX12_keep 44 = .ok (.bipush 31, 2) := by decide +kernel
theorem dX12_keep_46 : decode cX12_keep 46 = .ok (.iload_n 2, 1) := by decide +kernel
theorem dX12_keep_47 : decode cX12_keep 47 = .ok (.iadd, 1) := by decide +kernel
theorem dX12_keep_48 : decode cX12_keep 48 = .ok (.aload_n 0, 1) := by decide +kernel
theorem dX12_keep_49 : decode cX12_keep 49 = .ok (.getfield 18, 3) := by decide +kernel
theorem dX12_keep_52 : decode cX12_keep 52 = .ok (.iload_n 2, 1) := by decide +kernel
theorem dX12_keep_53 : decode cX12_keep 53 = .ok (.iaload, 1) := by decide +kernel
theorem dX12_keep_54 : decode cX12_keep 54 = .ok (.iastore, 1) := by decide +kernel
theorem dX12_keep_55 : decode cX12_keep 55 = .ok (.aload_n 1, 1) := by decide +kernel
theorem dX12_keep_56 : decode cX12_keep 56 = .ok (.bipush 37, 2) := by decide +kernel
theorem dX12_keep_58 : decode cX12_keep 58 = .ok (.iload_n 2, 1) := by decide +kernel
theorem dX12_keep_59 : decode cX12_keep 59 = .ok (.iadd, 1) := by decide +kernel
theorem dX12_keep_60 : decode cX12_keep 60 = .ok (.aload_n 0, 1) := by decide +kernel
theorem dX12_keep_61 : decode cX12_keep 61 = .ok (.getfield 21, 3) := by decide +kernel
theorem dX12_keep_64 : decode cX12_keep 64 = .ok (.iload_n 2, 1) := by decide +kernel
theorem dX12_keep_65 : decode cX12_keep 65 = .ok (.iaload, 1) := by decide +kernel
theorem dX12_keep_66 : decode cX12_keep 66 = .ok (.iastore, 1) := by decide +kernel
theorem dX12_keep_67 : decode cX12_keep 67 = .ok (.aload_n 1, 1) := by decide +kernel
theorem dX12_keep_68 : decode cX12_keep 68 = .ok (.bipush 43, 2) := by decide +kernel
theorem dX12_keep_70 : decode cX12_keep 70 = .ok (.iload_n 2, 1) := by decide +kernel
theorem dX12_keep_71 : decode cX12_keep 71 = .ok (.iadd, 1) := by decide +kernel
theorem dX12_keep_72 : decode cX12_keep 72 = .ok (.aload_n 0, 1) := by decide +kernel
theorem dX12_keep_73 : decode cX12_keep 73 = .ok (.getfield 24, 3) := by decide +kernel
theorem dX12_keep_76 : decode cX12_keep 76 = .ok (.iload_n 2, 1) := by decide +kernel
theorem dX12_keep_77 : decode cX12_keep 77 = .ok (.iaload, 1) := by decide +kernel
theorem dX12_keep_78 : decode cX12_keep 78 = .ok (.iastore, 1) := by decide +kernel
theorem dX12_keep_79 : decode cX12_keep 79 = .ok (.iinc 2 1, 3) := by decide +kernel
theorem dX12_keep_82 : decode cX12_keep 82 = .ok (.goto (-57), 3) := by decide +kernel
theorem dX12_keep_85 : decode cX12_keep 85 = .ok (.iconst 0, 1) := by decide +kernel
theorem dX12_keep_86 : decode cX12_keep 86 = .ok (.istore_n 2, 1) := by decide +kernel
theorem dX12_keep_87 : decode cX12_keep 87 = .ok (.iload_n 2, 1) := by decide +kernel
theorem dX12_keep_88 : decode cX12_keep 88 = .ok (.bipush 24, 2) := by decide +kernel
theorem dX12_keep_90 : decode cX12_keep 90 = .ok (.if_icmp .ge 21, 3) := by decide +kernel
theorem dX12_keep_93 : decode cX12_keep 93 = .ok (.aload_n 1, 1) := by decide +kernel
theorem dX12_keep_94 : decode cX12_keep 94 = .ok (.bipush 49, 2) := by decide +kernel
theorem dX12_keep_96 : decode cX12_keep 96 = .ok (.iload_n 2, 1) := by decide +kernel
theorem dX12_keep_97 : decode cX12_keep 97 = .ok (.iadd, 1) := by decide +kernel
theorem dX12_keep_98 : decode cX12_keep 98 = .ok (.aload_n 0, 1) := by decide +kernel
theorem dX12_keep_99 : decode cX12_keep 99 = .ok (.getfield 27, 3) := by decide +kernel
theorem dX12_keep_102 : decode cX12_keep 102 = .ok (.iload_n 2, 1) := by decide +kernel
theorem dX12_keep_103 : decode cX12_keep 103 = .ok (.iaload, 1) := by decide +kernel
theorem dX12_keep_104 : decode cX12_keep 104 = .ok (.iastore, 1) := by decide +kernel
theorem dX12_keep_105 : decode cX12_keep 105 = .ok (.iinc 2 1, 3) := by decide +kernel
theorem dX12_keep_108 : decode cX12_keep 108 = .ok (.goto (-21), 3) := by decide +kernel
theorem dX12_keep_111 : decode cX12_keep 111 = .ok (.iconst 0, 1) := by decide +kernel
theorem dX12_keep_112 : decode cX12_keep 112 = .ok (.istore_n 2, 1) := by decide +kernel
theorem dX12_keep_113 : decode cX12_keep 113 = .ok (.iload_n 2, 1) := by decide +kernel
theorem dX12_keep_114 : decode cX12_keep 114 = .ok (.iconst 5, 1) := by decide +kernel
theorem dX12_keep_115 : decode cX12_keep 115 = .ok (.if_icmp .ge 45, 3) := by decide +kernel
theorem dX12_keep_118 : decode cX12_keep 118 = .ok (.aload_n 1, 1) := by decide +kernel
theorem dX12_keep_119 : decode cX12_keep 119 = .ok (.bipush 73, 2) := by decide +kernel
theorem dX12_keep_121 : decode cX12_keep 121 = .ok (.iload_n 2, 1) := by decide +kernel
theorem dX12_keep_122 : decode cX12_keep 122 = .ok (.iadd, 1) := by decide +kernel
theorem dX12_keep_123 : decode cX12_keep 123 = .ok (.aload_n 0, 1) := by decide +kernel
theorem dX12_keep_124 : decode cX12_keep 124 = .ok (.getfield 55, 3) := by decide +kernel
theorem dX12_keep_127 : decode cX12_keep 127 = .ok (.iload_n 2, 1) := by decide +kernel
theorem dX12_keep_128 : decode cX12_keep 128 = .ok (.iaload, 1) := by decide +kernel
theorem dX12_keep_129 : decode cX12_keep 129 = .ok (.iastore, 1) := by decide +kernel
theorem dX12_keep_130 : decode cX12_keep 130 = .ok (.aload_n 1, 1) := by decide +kernel
theorem dX12_keep_131 : decode cX12_keep 131 = .ok (.bipush 78, 2) := by decide +kernel
theorem dX12_keep_133 : decode cX12_keep 133 = .ok (.iload_n 2, 1) := by decide +kernel
theorem dX12_keep_134 : decode cX12_keep 134 = .ok (.iadd, 1) := by decide +kernel
theorem dX12_keep_135 : decode cX12_keep 135 = .ok (.aload_n 0, 1) := by decide +kernel
theorem dX12_keep_136 : decode cX12_keep 136 = .ok (.getfield 58, 3) := by decide +kernel
theorem dX12_keep_139 : decode cX12_keep 139 = .ok (.iload_n 2, 1) := by decide +kernel
theorem dX12_keep_140 : decode cX12_keep 140 = .ok (.iaload, 1) := by decide +kernel
theorem dX12_keep_141 : decode cX12_keep 141 = .ok (.iastore, 1) := by decide +kernel
theorem dX12_keep_142 : decode cX12_keep 142 = .ok (.aload_n 1, 1) := by decide +kernel
theorem dX12_keep_143 : decode cX12_keep 143 = .ok (.bipush 83, 2) := by decide +kernel
theorem dX12_keep_145 : decode cX12_keep 145 = .ok (.iload_n 2, 1) := by decide +kernel
theorem dX12_keep_146 : decode cX12_keep 146 = .ok (.iadd, 1) := by decide +kernel
theorem dX12_keep_147 : decode cX12_keep 147 = .ok (.aload_n 0, 1) := by decide +kernel
theorem dX12_keep_148 : decode cX12_keep 148 = .ok (.getfield 61, 3) := by decide +kernel
theorem dX12_keep_151 : decode cX12_keep 151 = .ok (.iload_n 2, 1) := by decide +kernel
theorem dX12_keep_152 : decode cX12_keep 152 = .ok (.iaload, 1) := by decide +kernel
theorem dX12_keep_153 : decode cX12_keep 153 = .ok (.iastore, 1) := by decide +kernel
theorem dX12_keep_154 : decode cX12_keep 154 = .ok (.iinc 2 1, 3) := by decide +kernel
theorem dX12_keep_157 : decode cX12_keep 157 = .ok (.goto (-44), 3) := by decide +kernel
theorem dX12_keep_160 : decode cX12_keep 160 = .ok (.iconst 0, 1) := by decide +kernel
theorem dX12_keep_161 : decode cX12_keep 161 = .ok (.istore_n 2, 1) := by decide +kernel
theorem dX12_keep_162 : decode cX12_keep 162 = .ok (.iload_n 2, 1) := by decide +kernel
theorem dX12_keep_163 : decode cX12_keep 163 = .ok (.bipush 10, 2) := by decide +kernel
theorem dX12_keep_165 : decode cX12_keep 165 = .ok (.if_icmp .ge 33, 3) := by decide +kernel
theorem dX12_keep_168 : decode cX12_keep 168 = .ok (.aload_n 1, 1) := by decide +kernel
theorem dX12_keep_169 : decode cX12_keep 169 = .ok (.bipush 88, 2) := by decide +kernel
theorem dX12_keep_171 : decode cX12_keep 171 = .ok (.iload_n 2, 1) := by decide +kernel
theorem dX12_keep_172 : decode cX12_keep 172 = .ok (.iadd, 1) := by decide +kernel
theorem dX12_keep_173 : decode cX12_keep 173 = .ok (.aload_n 0, 1) := by decide +kernel
theorem dX12_keep_174 : decode cX12_keep 174 = .ok (.getfield 64, 3) := by decide +kernel
theorem dX12_keep_177 : decode cX12_keep 177 = .ok (.iload_n 2, 1) := by decide +kernel
theorem dX12_keep_178 : decode cX12_keep 178 = .ok (.iaload, 1) := by decide +kernel
theorem dX12_keep_179 : decode cX12_keep 179 = .ok (.iastore, 1) := by decide +kernel
theorem dX12_keep_180 : decode cX12_keep 180 = .ok (.aload_n 1, 1) := by decide +kernel
theorem dX12_keep_181 : decode cX12_keep 181 = .ok (.bipush 98, 2) := by decide +kernel
theorem dX12_keep_183 : decode cX12_keep 183 = .ok (.iload_n 2, 1) := by decide +kernel
theorem dX12_keep_184 : decode cX12_keep 184 = .ok (.iadd, 1) := by decide +kernel
theorem dX12_keep_185 : decode cX12_keep 185 = .ok (.aload_n 0, 1) := by decide +kernel
theorem dX12_keep_186 : decode cX12_keep 186 = .ok (.getfield 67, 3) := by decide +kernel
theorem dX12_keep_189 : decode cX12_keep 189 = .ok (.iload_n 2, 1) := by decide +kernel
theorem dX12_keep_190 : decode cX12_keep 190 = .ok (.iaload, 1) := by decide +kernel
theorem dX12_keep_191 : decode cX12_keep 191 = .ok (.iastore, 1) := by decide +kernel
theorem dX12_keep_192 : decode cX12_keep 192 = .ok (.iinc 2 1, 3) := by decide +kernel
theorem dX12_keep_195 : decode cX12_keep 195 = .ok (.goto (-33), 3) := by decide +kernel
theorem dX12_keep_198 : decode cX12_keep 198 = .ok (.iconst 0, 1) := by decide +kernel
theorem dX12_keep_199 : decode cX12_keep 199 = .ok (.istore_n 2, 1) := by decide +kernel
theorem dX12_keep_200 : decode cX12_keep 200 = .ok (.iload_n 2, 1) := by decide +kernel
theorem dX12_keep_201 : decode cX12_keep 201 = .ok (.bipush 8, 2) := by decide +kernel
theorem dX12_keep_203 : decode cX12_keep 203 = .ok (.if_icmp .ge 33, 3) := by decide +kernel
theorem dX12_keep_206 : decode cX12_keep 206 = .ok (.aload_n 1, 1) := by decide +kernel
theorem dX12_keep_207 : decode cX12_keep 207 = .ok (.bipush 108, 2) := by decide +kernel
theorem dX12_keep_209 : decode cX12_keep 209 = .ok (.iload_n 2, 1) := by decide +kernel
theorem dX12_keep_210 : decode cX12_keep 210 = .ok (.iadd, 1) := by decide +kernel
theorem dX12_keep_211 : decode cX12_keep 211 = .ok (.aload_n 0, 1) := by decide +kernel
theorem dX12_keep_212 : decode cX12_keep 212 = .ok (.getfield 70, 3) := by decide +kernel
theorem dX12_keep_215 : decode cX12_keep 215 = .ok (.iload_n 2, 1) := by decide +kernel
theorem dX12_keep_216 : decode cX12_keep 216 = .ok (.iaload, 1) := by decide +kernel
theorem dX12_keep_217 : decode cX12_keep 217 = .ok (.iastore, 1) := by decide +kernel
theorem dX12_keep_218 : decode cX12_keep 218 = .ok (.aload_n 1, 1) := by decide +kernel
theorem dX12_keep_219 : decode cX12_keep 219 = .ok (.bipush 116, 2) := by decide +kernel
theorem dX12_keep_221 : decode cX12_keep 221 = .ok (.iload_n 2, 1) := by decide +kernel
theorem dX12_keep_222 : decode cX12_keep 222 = .ok (.iadd, 1) := by decide +kernel
theorem dX12_keep_223 : decode cX12_keep 223 = .ok (.aload_n 0, 1) := by decide +kernel
theorem dX12_keep_224 : decode cX12_keep 224 = .ok (.getfield 73, 3) := by decide +kernel
theorem dX12_keep_227 : decode cX12_keep 227 = .ok (.iload_n 2, 1) := by decide +kernel
theorem dX12_keep_228 : decode cX12_keep 228 = .ok (.iaload, 1) := by decide +kernel
theorem dX12_keep_229 : decode cX12_keep 229 = .ok (.iastore, 1) := by decide +kernel
theorem dX12_keep_230 : decode cX12_keep 230 = .ok (.iinc 2 1, 3) := by decide +kernel
theorem dX12_keep_233 : decode cX12_keep 233 = .ok (.goto (-33), 3) := by decide +kernel
theorem dX12_keep_236 : decode cX12_keep 236 = .ok (.aload_n 1, 1) := by decide +kernel
theorem dX12_keep_237 : decode cX12_keep 237 = .ok (.bipush 124, 2) := by decide +kernel
theorem dX12_keep_239 : decode cX12_keep 239 = .ok (.aload_n 0, 1) := by decide +kernel
theorem dX12_keep_240 : decode cX12_keep 240 = .ok (.getfield 105, 3) := by decide +kernel
theorem dX12_keep_243 : decode cX12_keep 243 = .ok (.iastore, 1) := by decide +kernel
theorem dX12_keep_244 : decode cX12_keep 244 = .ok (.aload_n 1, 1) := by decide +kernel
theorem dX12_keep_245 : decode cX12_keep 245 = .ok (.bipush 125, 2) := by decide +kernel
theorem dX12_keep_247 : decode cX12_keep 247 = .ok (.aload_n 0, 1) := by decide +kernel
theorem dX12_keep_248 : decode cX12_keep 248 = .ok (.getfield 208, 3) := by decide +kernel
theorem dX12_keep_251 : decode cX12_keep 251 = .ok (.iastore, 1) := by decide +kernel
theorem dX12_keep_252 : decode cX12_keep 252 = .ok (.aload_n 1, 1) := by decide +kernel
theorem dX12_keep_253 : decode cX12_keep 253 = .ok (.bipush 126, 2) := by decide +kernel
theorem dX12_keep_255 : decode cX12_keep 255 = .ok (.aload_n 0, 1) := by decide +kernel
theorem dX12_keep_256 : decode cX12_keep 256 = .ok (.getfield 273, 3) := by decide +kernel
theorem dX12_keep_259 : decode cX12_keep 259 = .ok (.iastore, 1) := by decide +kernel
theorem dX12_keep_260 : decode cX12_keep 260 = .ok (.aload_n 1, 1) := by decide +kernel
theorem dX12_keep_261 : decode cX12_keep 261 = .ok (.bipush 127, 2) := by decide +kernel
theorem dX12_keep_263 : decode cX12_keep 263 = .ok (.aload_n 0, 1) := by decide +kernel
theorem dX12_keep_264 : decode cX12_keep 264 = .ok (.getfield 285, 3) := by decide +kernel
theorem dX12_keep_267 : decode cX12_keep 267 = .ok (.iastore, 1) := by decide +kernel
theorem dX12_keep_268 : decode cX12_keep 268 = .ok (.aload_n 1, 1) := by decide +kernel
theorem dX12_keep_269 : decode cX12_keep 269 = .ok (.sipush 128, 3) := by decide +kernel
theorem dX12_keep_272 : decode cX12_keep 272 = .ok (.aload_n 0, 1) := by decide +kernel
theorem dX12_keep_273 : decode cX12_keep 273 = .ok (.getfield 288, 3) := by decide +kernel
theorem dX12_keep_276 : decode cX12_keep 276 = .ok (.iastore, 1) := by decide +kernel
theorem dX12_keep_277 : decode cX12_keep 277 = .ok (.aload_n 1, 1) := by decide +kernel
theorem dX12_keep_278 : decode cX12_keep 278 = .ok (.sipush 129, 3) := by decide +kernel
theorem dX12_keep_281 : decode cX12_keep 281 = .ok (.aload_n 0, 1) := by decide +kernel
theorem dX12_keep_282 : decode cX12_keep 282 = .ok (.getfield 101, 3) := by decide +kernel
theorem dX12_keep_285 : decode cX12_keep 285 = .ok (.iastore, 1) := by decide +kernel
theorem dX12_keep_286 : decode cX12_keep 286 = .ok (.return_, 1) := by decide +kernel
theorem dX12_again_0 : decode cX12_again 0 = .ok (.iconst 0, 1) := by decide +kernel
theorem dX12_again_1 : decode cX12_again 1 = .ok (.istore_n 2, 1) := by decide +kernel
theorem dX12_again_2 : decode cX12_again 2 = .ok (.iload_n 2, 1) := by decide +kernel
theorem dX12_again_3 : decode cX12_again 3 = .ok (.bipush 25, 2) := by decide +kernel
theorem dX12_again_5 : decode cX12_again 5 = .ok (.if_icmp .ge 18, 3) := by decide +kernel
theorem dX12_again_8 : decode cX12_again 8 = .ok (.aload_n 0, 1) := by decide +kernel
theorem dX12_again_9 : decode cX12_again 9 = .ok (.getfield 9, 3) := by decide +kernel
theorem dX12_again_12 : decode cX12_again 12 = .ok (.iload_n 2, 1) := by decide +kernel
theorem dX12_again_13 : decode cX12_again 13 = .ok (.aload_n 1, 1) := by decide +kernel
theorem dX12_again_14 : decode cX12_again 14 = .ok (.iload_n 2, 1) := by decide +kernel
theorem dX12_again_15 : decode cX12_again 15 = .ok (.iaload, 1) := by decide +kernel
theorem dX12_again_16 : decode cX12_again 16 = .ok (.iastore, 1) := by decide +kernel
theorem dX12_again_17 : decode cX12_again 17 = .ok (.iinc 2 1, 3) := by decide +kernel
theorem dX12_again_20 : decode cX12_again 20 = .ok (.goto (-18), 3) := by decide +kernel
theorem dX12_again_23 : decode cX12_again 23 = .ok (.iconst 0, 1) := by decide +kernel
theorem dX12_again_24 : decode cX12_again 24 = .ok (.istore_n 2, 1) := by decide +kernel
theorem dX12_again_25 : decode cX12_again 25 = .ok (.iload_n 2, 1) := by decide +kernel
theorem dX12_again_26 : decode cX12_again 26 = .ok (.bipush 6, 2) := by decide +kernel
theorem dX12_again_28 : decode cX12_again 28 = .ok (.if_icmp .ge 57, 3) := by decide +kernel
theorem dX12_again_31 : decode cX12_again 31 = .ok (.aload_n 0, 1) := by decide +kernel
theorem dX12_again_32 : decode cX12_again 32 = .ok (.getfield 15, 3) := by decide +kernel
theorem dX12_again_35 : decode cX12_again 35 = .ok (.iload_n 2, 1) := by decide +kernel
theorem dX12_again_36 : decode cX12_again 36 = .ok (.aload_n 1, 1) := by decide +kernel
theorem dX12_again_37 : decode cX12_again 37 = .ok (.bipush 25, 2) := by decide +kernel
theorem dX12_again_39 : decode cX12_again 39 = .ok (.iload_n 2, 1) := by decide +kernel
theorem dX12_again_40 : decode cX12_again 40 = .ok (.iadd, 1) := by decide +kernel
theorem dX12_again_41 : decode cX12_again 41 = .ok (.iaload, 1) := by decide +kernel
theorem dX12_again_42 : decode cX12_again 42 = .ok (.iastore, 1) := by decide +kernel
theorem dX12_again_43 : decode cX12_again 43 = .ok (.aload_n 0, 1) := by decide +kernel
theorem dX12_again_44 : decode cX12_again 44 = .ok (.getfield 18, 3) := by decide +kernel
theorem dX12_again_47 : decode cX12_again 47 = .ok (.iload_n 2, 1) := by decide +kernel
theorem dX12_again_48 : decode cX12_again 48 = .ok (.aload_n 1, 1) := by decide +kernel
theorem dX12_again_49 : decode cX12_again 49 = .ok (.bipush 31, 2) := by decide +kernel
theorem dX12_again_51 : decode cX12_again 51 = .ok (.iload_n 2, 1) := by decide +kernel
theorem dX12_again_52 : decode cX12_again 52 = .ok (.iadd, 1) := by decide +kernel
theorem dX12_again_53 : decode cX12_again 53 = .ok (.iaload, 1) := by decide +kernel
theorem dX12_again_54 : decode cX12_again 54 = .ok (.iastore, 1) := by decide +kernel
theorem dX12_again_55 : decode cX12_again 55 = .ok (.aload_n 0, 1) := by decide +kernel
theorem dX12_again_56 : decode cX12_again 56 = .ok (.getfield 21, 3) := by decide +kernel
theorem dX12_again_59 : decode cX12_again 59 = .ok (.iload_n 2, 1) := by decide +kernel
theorem dX12_again_60 : decode cX12_again 60 = .ok (.aload_n 1, 1) := by decide +kernel
theorem dX12_again_61 : decode cX12_again 61 = .ok (.bipush 37, 2) := by decide +kernel
theorem dX12_again_63 : decode cX12_again 63 = .ok (.iload_n 2, 1) := by decide +kernel
theorem dX12_again_64 : decode cX12_again 64 = .ok (.iadd, 1) := by decide +kernel
theorem dX12_again_65 : decode cX12_again 65 = .ok (.iaload, 1) := by decide +kernel
theorem dX12_again_66 : decode cX12_again 66 = .ok (.iastore, 1) := by decide +kernel
theorem dX12_again_67 : decode cX12_again 67 = .ok (.aload_n 0, 1) := by decide +kernel
theorem dX12_again_68 : decode cX12_again 68 = .ok (.getfield 24, 3) := by decide +kernel
theorem dX12_again_71 : decode cX12_again 71 = .ok (.iload_n 2, 1) := by decide +kernel
theorem dX12_again_72 : decode cX12_again 72 = .ok (.aload_n 1, 1) := by decide +kernel
theorem dX12_again_73 : decode cX12_again 73 = .ok (.bipush 43, 2) := by decide +kernel
theorem dX12_again_75 : decode cX12_again 75 = .ok (.iload_n 2, 1) := by decide +kernel
theorem dX12_again_76 : decode cX12_again 76 = .ok (.iadd, 1) := by decide +kernel
theorem dX12_again_77 : decode cX12_again 77 = .ok (.iaload, 1) := by decide +kernel
theorem dX12_again_78 : decode cX12_again 78 = .ok (.iastore, 1) := by decide +kernel
theorem dX12_again_79 : decode cX12_again 79 = .ok (.iinc 2 1, 3) := by decide +kernel
theorem dX12_again_82 : decode cX12_again 82 = .ok (.goto (-57), 3) := by decide +kernel
theorem dX12_again_85 : decode cX12_again 85 = .ok (.iconst 0, 1) := by decide +kernel
theorem dX12_again_86 : decode cX12_again 86 = .ok (.istore_n 2, 1) := by decide +kernel
theorem dX12_again_87 : decode cX12_again 87 = .ok (.iload_n 2, 1) := by decide +kernel
theorem dX12_again_88 : decode cX12_again 88 = .ok (.bipush 24, 2) := by decide +kernel
theorem dX12_again_90 : decode cX12_again 90 = .ok (.if_icmp .ge 21, 3) := by decide +kernel
theorem dX12_again_93 : decode cX12_again 93 = .ok (.aload_n 0, 1) := by decide +kernel
theorem dX12_again_94 : decode cX12_again 94 = .ok (.getfield 27, 3) := by decide +kernel
theorem dX12_again_97 : decode cX12_again 97 = .ok (.iload_n 2, 1) := by decide +kernel
theorem dX12_again_98 : decode cX12_again 98 = .ok (.aload_n 1, 1) := by decide +kernel
theorem dX12_again_99 : decode cX12_again 99 = .ok (.bipush 49, 2) := by decide +kernel
theorem dX12_again_101 : decode cX12_again 101 = .ok (.iload_n 2, 1) := by decide +kernel
theorem dX12_again_102 : decode cX12_again 102 = .ok (.iadd, 1) := by decide +kernel
theorem dX12_again_103 : decode cX12_again 103 = .ok (.iaload, 1) := by decide +kernel
theorem dX12_again_104 : decode cX12_again 104 = .ok (.iastore, 1) := by decide +kernel
theorem dX12_again_105 : decode cX12_again 105 = .ok (.iinc 2 1, 3) := by decide +kernel
theorem dX12_again_108 : decode cX12_again 108 = .ok (.goto (-21), 3) := by decide +kernel
theorem dX12_again_111 : decode cX12_again 111 = .ok (.iconst 0, 1) := by decide +kernel
theorem dX12_again_112 : decode cX12_again 112 = .ok (.istore_n 2, 1) := by decide +kernel
theorem dX12_again_113 : decode cX12_again 113 = .ok (.iload_n 2, 1) := by decide +kernel
theorem dX12_again_114 : decode cX12_again 114 = .ok (.iconst 5, 1) := by decide +kernel
theorem dX12_again_115 : decode cX12_again 115 = .ok (.if_icmp .ge 45, 3) := by decide +kernel
theorem dX12_again_118 : decode cX12_again 118 = .ok (.aload_n 0, 1) := by decide +kernel
theorem dX12_again_119 : decode cX12_again 119 = .ok (.getfield 55, 3) := by decide +kernel
theorem dX12_again_122 : decode cX12_again 122 = .ok (.iload_n 2, 1) := by decide +kernel
theorem dX12_again_123 : decode cX12_again 123 = .ok (.aload_n 1, 1) := by decide +kernel
theorem dX12_again_124 : decode cX12_again 124 = .ok (.bipush 73, 2) := by decide +kernel
theorem dX12_again_126 : decode cX12_again 126 = .ok (.iload_n 2, 1) := by decide +kernel
theorem dX12_again_127 : decode cX12_again 127 = .ok (.iadd, 1) := by decide +kernel
theorem dX12_again_128 : decode cX12_again 128 = .ok (.iaload, 1) := by decide +kernel
theorem dX12_again_129 : decode cX12_again 129 = .ok (.iastore, 1) := by decide +kernel
theorem dX12_again_130 : decode cX12_again 130 = .ok (.aload_n 0, 1) := by decide +kernel
theorem dX12_again_131 : decode cX12_again 131 = .ok (.getfield 58, 3) := by decide +kernel
theorem dX12_again_134 : decode cX12_again 134 = .ok (.iload_n 2, 1) := by decide +kernel
theorem dX12_again_135 : decode cX12_again 135 = .ok (.aload_n 1, 1) := by decide +kernel
theorem dX12_again_136 : decode cX12_again 136 = .ok (.bipush 78, 2) := by decide +kernel
theorem dX12_again_138 : decode cX12_again 138 = .ok (.iload_n 2, 1) := by decide +kernel
theorem dX12_again_139 : decode cX12_again 139 = .ok (.iadd, 1) := by decide +kernel
theorem dX12_again_140 : decode cX12_again 140 = .ok (.iaload, 1) := by decide +kernel
theorem dX12_again_141 : decode cX12_again 141 = .ok (.iastore, 1) := by decide +kernel
theorem dX12_again_142 : decode cX12_again 142 = .ok (.aload_n 0, 1) := by decide +kernel
theorem dX12_again_143 : decode cX12_again 143 = .ok (.getfield 61, 3) := by decide +kernel
theorem dX12_again_146 : decode cX12_again 146 = .ok (.iload_n 2, 1) := by decide +kernel
theorem dX12_again_147 : decode cX12_again 147 = .ok (.aload_n 1, 1) := by decide +kernel
theorem dX12_again_148 : decode cX12_again 148 = .ok (.bipush 83, 2) := by decide +kernel
theorem dX12_again_150 : decode cX12_again 150 = .ok (.iload_n 2, 1) := by decide +kernel
theorem dX12_again_151 : decode cX12_again 151 = .ok (.iadd, 1) := by decide +kernel
theorem dX12_again_152 : decode cX12_again 152 = .ok (.iaload, 1) := by decide +kernel
theorem dX12_again_153 : decode cX12_again 153 = .ok (.iastore, 1) := by decide +kernel
theorem dX12_again_154 : decode cX12_again 154 = .ok (.iinc 2 1, 3) := by decide +kernel
theorem dX12_again_157 : decode cX12_again 157 = .ok (.goto (-44), 3) := by decide +kernel
theorem dX12_again_160 : decode cX12_again 160 = .ok (.iconst 0, 1) := by decide +kernel
theorem dX12_again_161 : decode cX12_again 161 = .ok (.istore_n 2, 1) := by decide +kernel
theorem dX12_again_162 : decode cX12_again 162 = .ok (.iload_n 2, 1) := by decide +kernel
theorem dX12_again_163 : decode cX12_again 163 = .ok (.bipush 10, 2) := by decide +kernel
theorem dX12_again_165 : decode cX12_again 165 = .ok (.if_icmp .ge 33, 3) := by decide +kernel
theorem dX12_again_168 : decode cX12_again 168 = .ok (.aload_n 0, 1) := by decide +kernel
theorem dX12_again_169 : decode cX12_again 169 = .ok (.getfield 64, 3) := by decide +kernel
theorem dX12_again_172 : decode cX12_again 172 = .ok (.iload_n 2, 1) := by decide +kernel
theorem dX12_again_173 : decode cX12_again 173 = .ok (.aload_n 1, 1) := by decide +kernel
theorem dX12_again_174 : decode cX12_again 174 = .ok (.bipush 88, 2) := by decide +kernel
theorem dX12_again_176 : decode cX12_again 176 = .ok (.iload_n 2, 1) := by decide +kernel
theorem dX12_again_177 : decode cX12_again 177 = .ok (.iadd, 1) := by decide +kernel
theorem dX12_again_178 : decode cX12_again 178 = .ok (.iaload, 1) := by decide +kernel
theorem dX12_again_179 : decode cX12_again 179 = .ok (.iastore, 1) := by decide +kernel
theorem dX12_again_180 : decode cX12_again 180 = .ok (.aload_n 0, 1) := by decide +kernel
theorem dX12_again_181 : decode cX12_again 181 = .ok (.getfield 67, 3) := by decide +kernel
theorem dX12_again_184 : decode cX12_again 184 = .ok (.iload_n 2, 1) := by decide +kernel
theorem dX12_again_185 : decode cX12_again 185 = .ok (.aload_n 1, 1) := by decide +kernel
theorem dX12_again_186 : decode cX12_again 186 = .ok (.bipush 98, 2) := by decide +kernel
theorem dX12_again_188 : decode cX12_again 188 = .ok (.iload_n 2, 1) := by decide +kernel
theorem dX12_again_189 : decode cX12_again 189 = .ok (.iadd, 1) := by decide +kernel
theorem dX12_again_190 : decode cX12_again 190 = .ok (.iaload, 1) := by decide +kernel
theorem dX12_again_191 : decode cX12_again 191 = .ok (.iastore, 1) := by decide +kernel
theorem dX12_again_192 : decode cX12_again 192 = .ok (.iinc 2 1, 3) := by decide +kernel
theorem dX12_again_195 : decode cX12_again 195 = .ok (.goto (-33), 3) := by decide +kernel
theorem dX12_again_198 : decode cX12_again 198 = .ok (.iconst 0, 1) := by decide +kernel
theorem dX12_again_199 : decode cX12_again 199 = .ok (.istore_n 2, 1) := by decide +kernel
theorem dX12_again_200 : decode cX12_again 200 = .ok (.iload_n 2, 1) := by decide +kernel
theorem dX12_again_201 : decode cX12_again 201 = .ok (.bipush 8, 2) := by decide +kernel
theorem dX12_again_203 : decode cX12_again 203 = .ok (.if_icmp .ge 33, 3) := by decide +kernel
theorem dX12_again_206 : decode cX12_again 206 = .ok (.aload_n 0, 1) := by decide +kernel
theorem dX12_again_207 : decode cX12_again 207 = .ok (.getfield 70, 3) := by decide +kernel
theorem dX12_again_210 : decode cX12_again 210 = .ok (.iload_n 2, 1) := by decide +kernel
theorem dX12_again_211 : decode cX12_again 211 = .ok (.aload_n 1, 1) := by decide +kernel
theorem dX12_again_212 : decode cX12_again 212 = .ok (.bipush 108, 2) := by decide +kernel
theorem dX12_again_214 : decode cX12_again 214 = .ok (.iload_n 2, 1) := by decide +kernel
theorem dX12_again_215 : decode cX12_again 215 = .ok (.iadd, 1) := by decide +kernel
theorem dX12_again_216 : decode cX12_again 216 = .ok (.iaload, 1) := by decide +kernel
theorem dX12_again_217 : decode cX12_again 217 = .ok (.iastore, 1) := by decide +kernel
theorem dX12_again_218 : decode cX12_again 218 = .ok (.aload_n 0, 1) := by decide +kernel
theorem dX12_again_219 : decode cX12_again 219 = .ok (.getfield 73, 3) := by decide +kernel
theorem dX12_again_222 : decode cX12_again 222 = .ok (.iload_n 2, 1) := by decide +kernel
theorem dX12_again_223 : decode cX12_again 223 = .ok (.aload_n 1, 1) := by decide +kernel
theorem dX12_again_224 : decode cX12_again 224 = .ok (.bipush 116, 2) := by decide +kernel
theorem dX12_again_226 : decode cX12_again 226 = .ok (.iload_n 2, 1) := by decide +kernel
theorem dX12_again_227 : decode cX12_again 227 = .ok (.iadd, 1) := by decide +kernel
theorem dX12_again_228 : decode cX12_again 228 = .ok (.iaload, 1) := by decide +kernel
theorem dX12_again_229 : decode cX12_again 229 = .ok (.iastore, 1) := by decide +kernel
theorem dX12_again_230 : decode cX12_again 230 = .ok (.iinc 2 1, 3) := by decide +kernel
theorem dX12_again_233 : decode cX12_again 233 = .ok (.goto (-33), 3) := by decide +kernel
theorem dX12_again_236 : decode cX12_again 236 = .ok (.aload_n 0, 1) := by decide +kernel
theorem dX12_again_237 : decode cX12_again 237 = .ok (.aload_n 1, 1) := by decide +kernel
theorem dX12_again_238 : decode cX12_again 238 = .ok (.bipush 124, 2) := by decide +kernel
theorem dX12_again_240 : decode cX12_again 240 = .ok (.iaload, 1) := by decide +kernel
theorem dX12_again_241 : decode cX12_again 241 = .ok (.putfield 105, 3) := by decide +kernel
theorem dX12_again_244 : decode cX12_again 244 = .ok (.aload_n 0, 1) := by decide +kernel
theorem dX12_again_245 : decode cX12_again 245 = .ok (.aload_n 1, 1) := by decide +kernel
theorem dX12_again_246 : decode cX12_again 246 = .ok (.bipush 125, 2) := by decide +kernel
theorem dX12_again_248 : decode cX12_again 248 = .ok (.iaload, 1) := by decide +kernel
theorem dX12_again_249 : decode cX12_again 249 = .ok (.putfield 208, 3) := by decide +kernel
theorem dX12_again_252 : decode cX12_again 252 = .ok (.aload_n 0, 1) := by decide +kernel
theorem dX12_again_253 : decode cX12_again 253 = .ok (.aload_n 1, 1) := by decide +kernel
theorem dX12_again_254 : decode cX12_again 254 = .ok (.bipush 126, 2) := by decide +kernel
theorem dX12_again_256 : decode cX12_again 256 = .ok (.iaload, 1) := by decide +kernel
theorem dX12_again_257 : decode cX12_again 257 = .ok (.putfield 273, 3) := by decide +kernel
theorem dX12_again_260 : decode cX12_again 260 = .ok (.aload_n 0, 1) := by decide +kernel
theorem dX12_again_261 : decode cX12_again 261 = .ok (.aload_n 1, 1) := by decide +kernel
theorem dX12_again_262 : decode cX12_again 262 = .ok (.bipush 127, 2) := by decide +kernel
theorem dX12_again_264 : decode cX12_again 264 = .ok (.iaload, 1) := by decide +kernel
theorem dX12_again_265 : decode cX12_again 265 = .ok (.putfield 285, 3) := by decide +kernel
theorem dX12_again_268 : decode cX12_again 268 = .ok (.aload_n 0, 1) := by decide +kernel
theorem dX12_again_269 : decode cX12_again 269 = .ok (.aload_n 1, 1) := by decide +kernel
theorem dX12_again_270 : decode cX12_again 270 = .ok (.sipush 128, 3) := by decide +kernel
theorem dX12_again_273 : decode cX12_again 273 = .ok (.iaload, 1) := by decide +kernel
theorem dX12_again_274 : decode cX12_again 274 = .ok (.putfield 288, 3) := by decide +kernel
theorem dX12_again_277 : decode cX12_again 277 = .ok (.aload_n 0, 1) := by decide +kernel
theorem dX12_again_278 : decode cX12_again 278 = .ok (.aload_n 1, 1) := by decide +kernel
theorem dX12_again_279 : decode cX12_again 279 = .ok (.sipush 129, 3) := by decide +kernel
theorem dX12_again_282 : decode cX12_again 282 = .ok (.iaload, 1) := by decide +kernel
theorem dX12_again_283 : decode cX12_again 283 = .ok (.putfield 101, 3) := by decide +kernel
theorem dX12_again_286 : decode cX12_again 286 = .ok (.return_, 1) := by decide +kernel
theorem dX12_image_0 : decode cX12_image 0 = .ok (.aload_n 0, 1) := by decide +kernel
theorem dX12_image_1 : decode cX12_image 1 = .ok (.iconst 1, 1) := by decide +kernel
theorem dX12_image_2 : decode cX12_image 2 = .ok (.putfield 291, 3) := by decide +kernel
theorem dX12_image_5 : decode cX12_image 5 = .ok (.aload_n 0, 1) := by decide +kernel
theorem dX12_image_6 : decode cX12_image 6 = .ok (.aload_n 0, 1) := by decide +kernel
theorem dX12_image_7 : decode cX12_image 7 = .ok (.getfield 79, 3) := by decide +kernel
theorem dX12_image_10 : decode cX12_image 10 = .ok (.invokevirtual 253, 3) := by decide +kernel
theorem dX12_image_13 : decode cX12_image 13 = .ok (.aload_n 0, 1) := by decide +kernel
theorem dX12_image_14 : decode cX12_image 14 = .ok (.getfield 105, 3) := by decide +kernel
theorem dX12_image_17 : decode cX12_image 17 = .ok (.ireturn, 1) := by decide +kernel
theorem dX12_undo_0 : decode cX12_undo 0 = .ok (.aload_n 0, 1) := by decide +kernel
theorem dX12_undo_1 : decode cX12_undo 1 = .ok (.getfield 291, 3) := by decide +kernel
theorem dX12_undo_4 : decode cX12_undo 4 = .ok (.ifCond .ne 6, 3) := by decide +kernel
theorem dX12_undo_7 : decode cX12_undo 7 = .ok (.bipush (-3), 2) := by decide +kernel
theorem dX12_undo_9 : decode cX12_undo 9 = .ok (.ireturn, 1) := by decide +kernel
theorem dX12_undo_10 : decode cX12_undo 10 = .ok (.aload_n 0, 1) := by decide +kernel
theorem dX12_undo_11 : decode cX12_undo 11 = .ok (.aload_n 0, 1) := by decide +kernel
theorem dX12_undo_12 : decode cX12_undo 12 = .ok (.getfield 79, 3) := by decide +kernel
theorem dX12_undo_15 : decode cX12_undo 15 = .ok (.invokevirtual 257, 3) := by decide +kernel
theorem dX12_undo_18 : decode cX12_undo 18 = .ok (.aload_n 0, 1) := by decide +kernel
theorem dX12_undo_19 : decode cX12_undo 19 = .ok (.getfield 105, 3) := by decide +kernel
theorem dX12_undo_22 : decode cX12_undo 22 = .ok (.ireturn, 1) := by decide +kernel
theorem dX12_ran_0 : decode cX12_ran 0 = .ok (.aload_n 0, 1) := by decide +kernel
theorem dX12_ran_1 : decode cX12_ran 1 = .ok (.getfield 295, 3) := by decide +kernel
theorem dX12_ran_4 : decode cX12_ran 4 = .ok (.bipush 20, 2) := by decide +kernel
theorem dX12_ran_6 : decode cX12_ran 6 = .ok (.if_icmp .ge 13, 3) := by decide +kernel
theorem dX12_ran_9 : decode cX12_ran 9 = .ok (.aload_n 0, 1) := by decide +kernel
theorem dX12_ran_10 : decode cX12_ran 10 = .ok (.getfield 76, 3) := by decide +kernel
theorem dX12_ran_13 : decode cX12_ran 13 = .ok (.aload_n 0, 1) := by decide +kernel
theorem dX12_ran_14 : decode cX12_ran 14 = .ok (.getfield 295, 3) := by decide +kernel
theorem dX12_ran_17 : decode cX12_ran 17 = .ok (.iload_n 1, 1) := by decide +kernel
theorem dX12_ran_18 : decode cX12_ran 18 = .ok (.iastore, 1) := by decide +kernel
theorem dX12_ran_19 : decode cX12_ran 19 = .ok (.aload_n 0, 1) := by decide +kernel
theorem dX12_ran_20 : decode cX12_ran 20 = .ok (.dup, 1) := by decide +kernel
theorem dX12_ran_21 : decode cX12_ran 21 = .ok (.getfield 295, 3) := by decide +kernel
theorem dX12_ran_24 : decode cX12_ran 24 = .ok (.iconst 1, 1) := by decide +kernel
theorem dX12_ran_25 : decode cX12_ran 25 = .ok (.iadd, 1) := by decide +kernel
theorem dX12_ran_26 : decode cX12_ran 26 = .ok (.putfield 295, 3) := by decide +kernel
theorem dX12_ran_29 : decode cX12_ran 29 = .ok (.return_, 1) := by decide +kernel
theorem dX12_above_0 : decode cX12_above 0 = .ok (.iload_n 0, 1) := by decide +kernel
theorem dX12_above_1 : decode cX12_above 1 = .ok (.iconst 4, 1) := by decide +kernel
theorem dX12_above_2 : decode cX12_above 2 = .ok (.if_icmp .ne 7, 3) := by decide +kernel
theorem dX12_above_5 : decode cX12_above 5 = .ok (.iconst 1, 1) := by decide +kernel
theorem dX12_above_6 : decode cX12_above 6 = .ok (.goto 23, 3) := by decide +kernel
theorem dX12_above_9 : decode cX12_above 9 = .ok (.iload_n 0, 1) := by decide +kernel
theorem dX12_above_10 : decode cX12_above 10 = .ok (.iconst 5, 1) := by decide +kernel
theorem dX12_above_11 : decode cX12_above 11 = .ok (.if_icmp .ne 7, 3) := by decide +kernel
theorem dX12_above_14 : decode cX12_above 14 = .ok (.iconst 2, 1) := by decide +kernel
theorem dX12_above_15 : decode cX12_above 15 = .ok (.goto 14, 3) := by decide +kernel
theorem dX12_above_18 : decode cX12_above 18 = .ok (.iload_n 0, 1) := by decide +kernel
theorem dX12_above_19 : decode cX12_above 19 = .ok (.bipush 6, 2) := by decide +kernel
theorem dX12_above_21 : decode cX12_above 21 = .ok (.if_icmp .ne 7, 3) := by decide +kernel
theorem dX12_above_24 : decode cX12_above 24 = .ok (.iconst 3, 1) := by decide +kernel
theorem dX12_above_25 : decode cX12_above 25 = .ok (.goto 4, 3) := by decide +kernel
theorem dX12_above_28 : decode cX12_above 28 = .ok (.iconst 0, 1) := by decide +kernel
theorem dX12_above_29 : decode cX12_above 29 = .ok (.ireturn, 1) := by decide +kernel
theorem dX12_bows_0 : decode cX12_bows 0 = .ok (.iload_n 2, 1) := by decide +kernel
theorem dX12_bows_1 : decode cX12_bows 1 = .ok (.tableswitch 105 0 6 #[95, 105, 43, 105, 59, 105, 74], 43) := by decide +kernel
theorem dX12_bows_44 : decode cX12_bows 44 = .ok (.aload_n 0, 1) := by decide +kernel
theorem dX12_bows_45 : decode cX12_bows 45 = .ok (.bipush 30, 2) := by decide +kernel
theorem dX12_bows_47 : decode cX12_bows 47 = .ok (.invokevirtual 298, 3) := by decide +kernel
theorem dX12_bows_50 : decode cX12_bows 50 = .ok (.aload_n 0, 1) := by decide +kernel
theorem dX12_bows_51 : decode cX12_bows 51 = .ok (.iload_n 1, 1) := by decide +kernel
theorem dX12_bows_52 : decode cX12_bows 52 = .ok (.iconst 0, 1) := by decide +kernel
theorem dX12_bows_53 : decode cX12_bows 53 = .ok (.iload_n 3, 1) := by decide +kernel
theorem dX12_bows_54 : decode cX12_bows 54 = .ok (.iconst 3, 1) := by decide +kernel
theorem dX12_bows_55 : decode cX12_bows 55 = .ok (.imul, 1) := by decide +kernel
theorem dX12_bows_56 : decode cX12_bows 56 = .ok (.invokevirtual 302, 3) := by decide +kernel
theorem dX12_bows_59 : decode cX12_bows 59 = .ok (.ireturn, 1) := by decide +kernel
theorem dX12_bows_60 : decode cX12_bows 60 = .ok (.aload_n 0, 1) := by decide +kernel
theorem dX12_bows_61 : decode cX12_bows 61 = .ok (.bipush 50, 2) := by decide +kernel
theorem dX12_bows_63 : decode cX12_bows 63 = .ok (.invokevirtual 298, 3) := by decide +kernel
theorem dX12_bows_66 : decode cX12_bows 66 = .ok (.aload_n 0, 1) := by decide +kernel
theorem dX12_bows_67 : decode cX12_bows 67 = .ok (.iload_n 1, 1) := by decide +kernel
theorem dX12_bows_68 : decode cX12_bows 68 = .ok (.iconst 1, 1) := by decide +kernel
theorem dX12_bows_69 : decode cX12_bows 69 = .ok (.iload_n 3, 1) := by decide +kernel
theorem dX12_bows_70 : decode cX12_bows 70 = .ok (.invokevirtual 302, 3) := by decide +kernel
theorem dX12_bows_73 : decode cX12_bows 73 = .ok (.ineg, 1) := by decide +kernel
theorem dX12_bows_74 : decode cX12_bows 74 = .ok (.ireturn, 1) := by decide +kernel
theorem dX12_bows_75 : decode cX12_bows 75 = .ok (.aload_n 0, 1) := by decide +kernel
theorem dX12_bows_76 : decode cX12_bows 76 = .ok (.bipush 71, 2) := by decide +kernel
theorem dX12_bows_78 : decode cX12_bows 78 = .ok (.invokevirtual 298, 3) := by decide +kernel
theorem dX12_bows_81 : decode cX12_bows 81 = .ok (.aload_n 0, 1) := by decide +kernel
theorem dX12_bows_82 : decode cX12_bows 82 = .ok (.iload_n 1, 1) := by decide +kernel
theorem dX12_bows_83 : decode cX12_bows 83 = .ok (.iconst 3, 1) := by decide +kernel
theorem dX12_bows_84 : decode cX12_bows 84 = .ok (.iload_n 3, 1) := by decide +kernel
theorem dX12_bows_85 : decode cX12_bows 85 = .ok (.invokevirtual 302, 3) := by decide +kernel
theorem dX12_bows_88 : decode cX12_bows 88 = .ok (.aload_n 0, 1) := by decide +kernel
theorem dX12_bows_89 : decode cX12_bows 89 = .ok (.getfield 18, 3) := by decide +kernel
theorem dX12_bows_92 : decode cX12_bows 92 = .ok (.iload_n 1, 1) := by decide +kernel
theorem dX12_bows_93 : decode cX12_bows 93 = .ok (.iaload, 1) := by decide +kernel
theorem dX12_bows_94 : decode cX12_bows 94 = .ok (.ixor, 1) := by decide +kernel
theorem dX12_bows_95 : decode cX12_bows 95 = .ok (.ireturn, 1) := by decide +kernel
theorem dX12_bows_96 : decode cX12_bows 96 = .ok (.aload_n 0, 1) := by decide +kernel
theorem dX12_bows_97 : decode cX12_bows 97 = .ok (.bipush 10, 2) := by decide +kernel
theorem dX12_bows_99 : decode cX12_bows 99 = .ok (.invokevirtual 298, 3) := by decide +kernel
theorem dX12_bows_102 : decode cX12_bows 102 = .ok (.iload_n 3, 1) := by decide +kernel
theorem dX12_bows_103 : decode cX12_bows 103 = .ok (.iload_n 1, 1) := by decide +kernel
theorem dX12_bows_104 : decode cX12_bows 104 = .ok (.iadd, 1) := by decide +kernel
theorem dX12_bows_105 : decode cX12_bows 105 = .ok (.ireturn, 1) := by decide +kernel
theorem dX12_bows_106 : decode cX12_bows 106 = .ok (.aload_n 0, 1) := by decide +kernel
theorem dX12_bows_107 : decode cX12_bows 107 = .ok (.iload_n 1, 1) := by decide +kernel
theorem dX12_bows_108 : decode cX12_bows 108 = .ok (.iload_n 2, 1) := by decide +kernel
theorem dX12_bows_109 : decode cX12_bows 109 = .ok (.invokestatic 305, 3) := by decide +kernel
theorem dX12_bows_112 : decode cX12_bows 112 = .ok (.iload_n 3, 1) := by decide +kernel
theorem dX12_bows_113 : decode cX12_bows 113 = .ok (.invokevirtual 302, 3) := by decide +kernel
theorem dX12_bows_116 : decode cX12_bows 116 = .ok (.ireturn, 1) := by decide +kernel
theorem dX12_walks_0 : decode cX12_walks 0 = .ok (.iload_n 2, 1) := by decide +kernel
theorem dX12_walks_1 : decode cX12_walks 1 = .ok (.tableswitch 128 0 6 #[102, 43, 128, 128, 60, 128, 76], 43) := by decide +kernel
theorem dX12_walks_44 : decode cX12_walks 44 = .ok (.aload_n 0, 1) := by decide +kernel
theorem dX12_walks_45 : decode cX12_walks 45 = .ok (.bipush 20, 2) := by decide +kernel
theorem dX12_walks_47 : decode cX12_walks 47 = .ok (.invokevirtual 298, 3) := by decide +kernel
theorem dX12_walks_50 : decode cX12_walks 50 = .ok (.aload_n 0, 1) := by decide +kernel
theorem dX12_walks_51 : decode cX12_walks 51 = .ok (.iload_n 1, 1) := by decide +kernel
theorem dX12_walks_52 : decode cX12_walks 52 = .ok (.iconst 0, 1) := by decide +kernel
theorem dX12_walks_53 : decode cX12_walks 53 = .ok (.iload_n 3, 1) := by decide +kernel
theorem dX12_walks_54 : decode cX12_walks 54 = .ok (.invokevirtual 308, 3) := by decide +kernel
theorem dX12_walks_57 : decode cX12_walks 57 = .ok (.bipush 6, 2) := by decide +kernel
theorem dX12_walks_59 : decode cX12_walks 59 = .ok (.ixor, 1) := by decide +kernel
theorem dX12_walks_60 : decode cX12_walks 60 = .ok (.ireturn, 1) := by decide +kernel
theorem dX12_walks_61 : decode cX12_walks 61 = .ok (.aload_n 0, 1) := by decide +kernel
theorem dX12_walks_62 : decode cX12_walks 62 = .ok (.bipush 51, 2) := by decide +kernel
theorem dX12_walks_64 : decode cX12_walks 64 = .ok (.invokevirtual 298, 3) := by decide +kernel
theorem dX12_walks_67 : decode cX12_walks 67 = .ok (.aload_n 0, 1) := by decide +kernel
theorem dX12_walks_68 : decode cX12_walks 68 = .ok (.iload_n 1, 1) := by decide +kernel
theorem dX12_walks_69 : decode cX12_walks 69 = .ok (.iconst 1, 1) := by decide +kernel
theorem dX12_walks_70 : decode cX12_walks 70 = .ok (.iload_n 3, 1) := by decide +kernel
theorem dX12_walks_71 : decode cX12_walks 71 = .ok (.iconst 1, 1) := by decide +kernel
theorem dX12_walks_72 : decode cX12_walks 72 = .ok (.iadd, 1) := by decide +kernel
theorem dX12_walks_73 : decode cX12_walks 73 = .ok (.invokevirtual 308, 3) := by decide +kernel
theorem dX12_walks_76 : decode cX12_walks 76 = .ok (.ireturn, 1) := by decide +kernel
theorem dX12_walks_77 : decode cX12_walks 77 = .ok (.aload_n 0, 1) := by decide +kernel
theorem dX12_walks_78 : decode cX12_walks 78 = .ok (.bipush 70, 2) := by decide +kernel
theorem dX12_walks_80 : decode cX12_walks 80 = .ok (.invokevirtual 298, 3) := by decide +kernel
theorem dX12_walks_83 : decode cX12_walks 83 = .ok (.aload_n 0, 1) := by decide +kernel
theorem dX12_walks_84 : decode cX12_walks 84 = .ok (.iload_n 1, 1) := by decide +kernel
theorem dX12_walks_85 : decode cX12_walks 85 = .ok (.iconst 3, 1) := by decide +kernel
theorem dX12_walks_86 : decode cX12_walks 86 = .ok (.iload_n 3, 1) := by decide +kernel
theorem dX12_walks_87 : decode cX12_walks 87 = .ok (.invokevirtual 308, 3) := by decide +kernel
theorem dX12_walks_90 : decode cX12_walks 90 = .ok (.istore 4, 2) := by decide +kernel
theorem dX12_walks_92 : decode cX12_walks 92 = .ok (.iload 4, 2) := by decide +kernel
theorem dX12_walks_94 : decode cX12_walks 94 = .ok (.aload_n 0, 1) := by decide +kernel
theorem dX12_walks_95 : decode cX12_walks 95 = .ok (.iload_n 1, 1) := by decide +kernel
theorem dX12_walks_96 : decode cX12_walks 96 = .ok (.iconst 3, 1) := by decide +kernel
theorem dX12_walks_97 : decode cX12_walks 97 = .ok (.iconst 2, 1) := by decide +kernel
theorem dX12_walks_98 : decode cX12_walks 98 = .ok (.invokevirtual 302, 3) := by decide +kernel
theorem dX12_walks_101 : decode cX12_walks 101 = .ok (.iadd, 1) := by decide +kernel
theorem dX12_walks_102 : decode cX12_walks 102 = .ok (.ireturn, 1) := by decide +kernel
theorem dX12_walks_103 : decode cX12_walks 103 = .ok (.aload_n 0, 1) := by decide +kernel
theorem dX12_walks_104 : decode cX12_walks 104 = .ok (.bipush 11, 2) := by decide +kernel
theorem dX12_walks_106 : decode cX12_walks 106 = .ok (.invokevirtual 298, 3) := by decide +kernel
theorem dX12_walks_109 : decode cX12_walks 109 = .ok (.aload_n 0, 1) := by decide +kernel
theorem dX12_walks_110 : decode cX12_walks 110 = .ok (.iload_n 1, 1) := by decide +kernel
theorem dX12_walks_111 : decode cX12_walks 111 = .ok (.aload_n 0, 1) := by decide +kernel
theorem dX12_walks_112 : decode cX12_walks 112 = .ok (.getfield 15, 3) := by decide +kernel
theorem dX12_walks_115 : decode cX12_walks 115 = .ok (.iload_n 1, 1) := by decide +kernel
theorem dX12_walks_116 : decode cX12_walks 116 = .ok (.iaload, 1) := by decide +kernel
theorem dX12_walks_117 : decode cX12_walks 117 = .ok (.iload_n 3, 1) := by decide +kernel
theorem dX12_walks_118 : decode cX12_walks 118 = .ok (.invokevirtual 302, 3) := by decide +kernel
theorem dX12_walks_121 : decode cX12_walks 121 = .ok (.aload_n 0, 1) := by decide +kernel
theorem dX12_walks_122 : decode cX12_walks 122 = .ok (.getfield 18, 3) := by decide +kernel
theorem dX12_walks_125 : decode cX12_walks 125 = .ok (.iload_n 1, 1) := by decide +kernel
theorem dX12_walks_126 : decode cX12_walks 126 = .ok (.iaload, 1) := by decide +kernel
theorem dX12_walks_127 : decode cX12_walks 127 = .ok (.isub, 1) := by decide +kernel
theorem dX12_walks_128 : decode cX12_walks 128 = .ok (.ireturn, 1) := by decide +kernel
theorem dX12_walks_129 : decode cX12_walks 129 = .ok (.aload_n 0, 1) := by decide +kernel
theorem dX12_walks_130 : decode cX12_walks 130 = .ok (.iload_n 1, 1) := by decide +kernel
theorem dX12_walks_131 : decode cX12_walks 131 = .ok (.iload_n 2, 1) := by decide +kernel
theorem dX12_walks_132 : decode cX12_walks 132 = .ok (.invokestatic 305, 3) := by decide +kernel
theorem dX12_walks_135 : decode cX12_walks 135 = .ok (.iload_n 3, 1) := by decide +kernel
theorem dX12_walks_136 : decode cX12_walks 136 = .ok (.invokevirtual 308, 3) := by decide +kernel
theorem dX12_walks_139 : decode cX12_walks 139 = .ok (.ireturn, 1) := by decide +kernel
theorem dX12_tells_0 : decode cX12_tells 0 = .ok (.iload_n 2, 1) := by decide +kernel
theorem dX12_tells_1 : decode cX12_tells 1 = .ok (.lookupswitch 103 #[(0, 82), (3, 35), (5, 66)], 35) := by decide +kernel
theorem dX12_tells_36 : decode cX12_tells 36 = .ok (.aload_n 0, 1) := by decide +kernel
theorem dX12_tells_37 : decode cX12_tells 37 = .ok (.bipush 40, 2) := by decide +kernel
theorem dX12_tells_39 : decode cX12_tells 39 = .ok (.invokevirtual 298, 3) := by decide +kernel
theorem dX12_tells_42 : decode cX12_tells 42 = .ok (.aload_n 0, 1) := by decide +kernel
theorem dX12_tells_43 : decode cX12_tells 43 = .ok (.iload_n 1, 1) := by decide +kernel
theorem dX12_tells_44 : decode cX12_tells 44 = .ok (.iconst 0, 1) := by decide +kernel
theorem dX12_tells_45 : decode cX12_tells 45 = .ok (.iload_n 3, 1) := by decide +kernel
theorem dX12_tells_46 : decode cX12_tells 46 = .ok (.invokevirtual 311, 3) := by decide +kernel
theorem dX12_tells_49 : decode cX12_tells 49 = .ok (.istore 4, 2) := by decide +kernel
theorem dX12_tells_51 : decode cX12_tells 51 = .ok (.iload 4, 2) := by decide +kernel
theorem dX12_tells_53 : decode cX12_tells 53 = .ok (.aload_n 0, 1) := by decide +kernel
theorem dX12_tells_54 : decode cX12_tells 54 = .ok (.iload_n 1, 1) := by decide +kernel
theorem dX12_tells_55 : decode cX12_tells 55 = .ok (.aload_n 0, 1) := by decide +kernel
theorem dX12_tells_56 : decode cX12_tells 56 = .ok (.getfield 15, 3) := by decide +kernel
theorem dX12_tells_59 : decode cX12_tells 59 = .ok (.iload_n 1, 1) := by decide +kernel
theorem dX12_tells_60 : decode cX12_tells 60 = .ok (.iaload, 1) := by decide +kernel
theorem dX12_tells_61 : decode cX12_tells 61 = .ok (.iconst 1, 1) := by decide +kernel
theorem dX12_tells_62 : decode cX12_tells 62 = .ok (.invokevirtual 308, 3) := by decide +kernel
theorem dX12_tells_65 : decode cX12_tells 65 = .ok (.iadd, 1) := by decide +kernel
theorem dX12_tells_66 : decode cX12_tells 66 = .ok (.ireturn, 1) := by decide +kernel
theorem dX12_tells_67 : decode cX12_tells 67 = .ok (.aload_n 0, 1) := by decide +kernel
theorem dX12_tells_68 : decode cX12_tells 68 = .ok (.bipush 60, 2) := by decide +kernel
theorem dX12_tells_70 : decode cX12_tells 70 = .ok (.invokevirtual 298, 3) := by decide +kernel
theorem dX12_tells_73 : decode cX12_tells 73 = .ok (.aload_n 0, 1) := by decide +kernel
theorem dX12_tells_74 : decode cX12_tells 74 = .ok (.iload_n 1, 1) := by decide +kernel
theorem dX12_tells_75 : decode cX12_tells 75 = .ok (.iconst 2, 1) := by decide +kernel
theorem dX12_tells_76 : decode cX12_tells 76 = .ok (.iload_n 3, 1) := by decide +kernel
theorem dX12_tells_77 : decode cX12_tells 77 = .ok (.iload_n 1, 1) := by decide +kernel
theorem dX12_tells_78 : decode cX12_tells 78 = .ok (.isub, 1) := by decide +kernel
theorem dX12_tells_79 : decode cX12_tells 79 = .ok (.invokevirtual 311, 3) := by decide +kernel
theorem dX12_tells_82 : decode cX12_tells 82 = .ok (.ireturn, 1) := by decide +kernel
theorem dX12_tells_83 : decode cX12_tells 83 = .ok (.aload_n 0, 1) := by decide +kernel
theorem dX12_tells_84 : decode cX12_tells 84 = .ok (.bipush 12, 2) := by decide +kernel
theorem dX12_tells_86 : decode cX12_tells 86 = .ok (.invokevirtual 298, 3) := by decide +kernel
theorem dX12_tells_89 : decode cX12_tells 89 = .ok (.aload_n 0, 1) := by decide +kernel
theorem dX12_tells_90 : decode cX12_tells 90 = .ok (.iload_n 1, 1) := by decide +kernel
theorem dX12_tells_91 : decode cX12_tells 91 = .ok (.aload_n 0, 1) := by decide +kernel
theorem dX12_tells_92 : decode cX12_tells 92 = .ok (.getfield 15, 3) := by decide +kernel
theorem dX12_tells_95 : decode cX12_tells 95 = .ok (.iload_n 1, 1) := by decide +kernel
theorem dX12_tells_96 : decode cX12_tells 96 = .ok (.iaload, 1) := by decide +kernel
theorem dX12_tells_97 : decode cX12_tells 97 = .ok (.iload_n 3, 1) := by decide +kernel
theorem dX12_tells_98 : decode cX12_tells 98 = .ok (.invokevirtual 308, 3) := by decide +kernel
theorem dX12_tells_101 : decode cX12_tells 101 = .ok (.iconst 2, 1) := by decide +kernel
theorem dX12_tells_102 : decode cX12_tells 102 = .ok (.imul, 1) := by decide +kernel
theorem dX12_tells_103 : decode cX12_tells 103 = .ok (.ireturn, 1) := by decide +kernel
theorem dX12_tells_104 : decode cX12_tells 104 = .ok (.aload_n 0, 1) := by decide +kernel
theorem dX12_tells_105 : decode cX12_tells 105 = .ok (.iload_n 1, 1) := by decide +kernel
theorem dX12_tells_106 : decode cX12_tells 106 = .ok (.iload_n 2, 1) := by decide +kernel
theorem dX12_tells_107 : decode cX12_tells 107 = .ok (.invokestatic 305, 3) := by decide +kernel
theorem dX12_tells_110 : decode cX12_tells 110 = .ok (.iload_n 3, 1) := by decide +kernel
theorem dX12_tells_111 : decode cX12_tells 111 = .ok (.invokevirtual 311, 3) := by decide +kernel
theorem dX12_tells_114 : decode cX12_tells 114 = .ok (.ireturn, 1) := by decide +kernel
theorem dX12_act_0 : decode cX12_act 0 = .ok (.aload_n 0, 1) := by decide +kernel
theorem dX12_act_1 : decode cX12_act 1 = .ok (.iconst 0, 1) := by decide +kernel
theorem dX12_act_2 : decode cX12_act 2 = .ok (.putfield 295, 3) := by decide +kernel
theorem dX12_act_5 : decode cX12_act 5 = .ok (.aload_n 0, 1) := by decide +kernel
theorem dX12_act_6 : decode cX12_act 6 = .ok (.iload_n 1, 1) := by decide +kernel
theorem dX12_act_7 : decode cX12_act 7 = .ok (.invokevirtual 116, 3) := by decide +kernel
theorem dX12_act_10 : decode cX12_act 10 = .ok (.ifCond .eq 12, 3) := by decide +kernel
theorem dX12_act_13 : decode cX12_act 13 = .ok (.iload_n 2, 1) := by decide +kernel
theorem dX12_act_14 : decode cX12_act 14 = .ok (.iconst 0, 1) := by decide +kernel
theorem dX12_act_15 : decode cX12_act 15 = .ok (.iconst 2, 1) := by decide +kernel
theorem dX12_act_16 : decode cX12_act 16 = .ok (.invokestatic 108, 3) := by decide +kernel
theorem dX12_act_19 : decode cX12_act 19 = .ok (.ifCond .ne 5, 3) := by decide +kernel
theorem dX12_act_22 : decode cX12_act 22 = .ok (.iconst 0, 1) := by decide +kernel
theorem dX12_act_23 : decode cX12_act 23 = .ok (.ireturn, 1) := by decide +kernel
theorem dX12_act_24 : decode cX12_act 24 = .ok (.aload_n 0, 1) := by decide +kernel
theorem dX12_act_25 : decode cX12_act 25 = .ok (.getfield 15, 3) := by decide +kernel
theorem dX12_act_28 : decode cX12_act 28 = .ok (.iload_n 1, 1) := by decide +kernel
theorem dX12_act_29 : decode cX12_act 29 = .ok (.iaload, 1) := by decide +kernel
theorem dX12_act_30 : decode cX12_act 30 = .ok (.istore 4, 2) := by decide +kernel
theorem dX12_act_32 : decode cX12_act 32 = .ok (.iload_n 2, 1) := by decide +kernel
theorem dX12_act_33 : decode cX12_act 33 = .ok (.ifCond .ne 14, 3) := by decide +kernel
theorem dX12_act_36 : decode cX12_act 36 = .ok (.aload_n 0, 1) := by decide +kernel
theorem dX12_act_37 : decode cX12_act 37 = .ok (.iload_n 1, 1) := by decide +kernel
theorem dX12_act_38 : decode cX12_act 38 = .ok (.iload 4, 2) := by decide +kernel
theorem dX12_act_40 : decode cX12_act 40 = .ok (.iload_n 3, 1) := by decide +kernel
theorem dX12_act_41 : decode cX12_act 41 = .ok (.invokevirtual 302, 3) := by decide +kernel
theorem dX12_act_44 : decode cX12_act 44 = .ok (.goto 27, 3) := by decide +kernel
theorem dX12_act_47 : decode cX12_act 47 = .ok (.iload_n 2, 1) := by decide +kernel
theorem dX12_act_48 : decode cX12_act 48 = .ok (.iconst 1, 1) := by decide +kernel
theorem dX12_act_49 : decode cX12_act 49 = .ok (.if_icmp .ne 14, 3) := by decide +kernel
theorem dX12_act_52 : decode cX12_act 52 = .ok (.aload_n 0, 1) := by decide +kernel
theorem dX12_act_53 : decode cX12_act 53 = .ok (.iload_n 1, 1) := by decide +kernel
theorem dX12_act_54 : decode cX12_act 54 = .ok (.iload 4, 2) := by decide +kernel
theorem dX12_act_56 : decode cX12_act 56 = .ok (.iload_n 3, 1) := by decide +kernel
theorem dX12_act_57 : decode cX12_act 57 = .ok (.invokevirtual 308, 3) := by decide +kernel
theorem dX12_act_60 : decode cX12_act 60 = .ok (.goto 11, 3) := by decide +kernel
theorem dX12_act_63 : decode cX12_act 63 = .ok (.aload_n 0, 1) := by decide +kernel
theorem dX12_act_64 : decode cX12_act 64 = .ok (.iload_n 1, 1) := by decide +kernel
theorem dX12_act_65 : decode cX12_act 65 = .ok (.iload 4, 2) := by decide +kernel
theorem dX12_act_67 : decode cX12_act 67 = .ok (.iload_n 3, 1) := by decide +kernel
theorem dX12_act_68 : decode cX12_act 68 = .ok (.invokevirtual 311, 3) := by decide +kernel
theorem dX12_act_71 : decode cX12_act 71 = .ok (.ireturn, 1) := by decide +kernel
theorem dX12_trace_0 : decode cX12_trace 0 = .ok (.iload_n 1, 1) := by decide +kernel
theorem dX12_trace_1 : decode cX12_trace 1 = .ok (.iconst 0, 1) := by decide +kernel
theorem dX12_trace_2 : decode cX12_trace 2 = .ok (.bipush 20, 2) := by decide +kernel
theorem dX12_trace_4 : decode cX12_trace 4 = .ok (.aload_n 0, 1) := by decide +kernel
theorem dX12_trace_5 : decode cX12_trace 5 = .ok (.getfield 295, 3) := by decide +kernel
theorem dX12_trace_8 : decode cX12_trace 8 = .ok (.invokestatic 230, 3) := by decide +kernel
theorem dX12_trace_11 : decode cX12_trace 11 = .ok (.iconst 1, 1) := by decide +kernel
theorem dX12_trace_12 : decode cX12_trace 12 = .ok (.isub, 1) := by decide +kernel
theorem dX12_trace_13 : decode cX12_trace 13 = .ok (.invokestatic 108, 3) := by decide +kernel
theorem dX12_trace_16 : decode cX12_trace 16 = .ok (.ifCond .eq 12, 3) := by decide +kernel
theorem dX12_trace_19 : decode cX12_trace 19 = .ok (.aload_n 0, 1) := by decide +kernel
theorem dX12_trace_20 : decode cX12_trace 20 = .ok (.getfield 76, 3) := by decide +kernel
theorem dX12_trace_23 : decode cX12_trace 23 = .ok (.iload_n 1, 1) := by decide +kernel
theorem dX12_trace_24 : decode cX12_trace 24 = .ok (.iaload, 1) := by decide +kernel
theorem dX12_trace_25 : decode cX12_trace 25 = .ok (.goto 4, 3) := by decide +kernel
theorem dX12_trace_28 : decode cX12_trace 28 = .ok (.iconst (-1), 1) := by decide +kernel
theorem dX12_trace_29 : decode cX12_trace 29 = .ok (.ireturn, 1) := by decide +kernel
theorem dX12_taken_0 : decode cX12_taken 0 = .ok (.iload_n 2, 1) := by decide +kernel
theorem dX12_taken_1 : decode cX12_taken 1 = .ok (.iconst 0, 1) := by decide +kernel
theorem dX12_taken_2 : decode cX12_taken 2 = .ok (.bipush 6, 2) := by decide +kernel
theorem dX12_taken_4 : decode cX12_taken 4 = .ok (.invokestatic 108, 3) := by decide +kernel
theorem dX12_taken_7 : decode cX12_taken 7 = .ok (.ifCond .ne 6, 3) := by decide +kernel
theorem dX12_taken_10 : decode cX12_taken 10 = .ok (.bipush (-2), 2) := by decide +kernel
theorem dX12_taken_12 : decode cX12_taken 12 = .ok (.ireturn, 1) := by decide +kernel
theorem dX12_taken_13 : decode cX12_taken 13 = .ok (.aload_n 0, 1) := by decide +kernel
theorem dX12_taken_14 : decode cX12_taken 14 = .ok (.iload_n 1, 1) := by decide +kernel
theorem dX12_taken_15 : decode cX12_taken 15 = .ok (.invokevirtual 116, 3) := by decide +kernel
theorem dX12_taken_18 : decode cX12_taken 18 = .ok (.ifCond .ne 6, 3) := by decide +kernel
theorem dX12_taken_21 : decode cX12_taken 21 = .ok (.bipush (-11), 2) := by decide +kernel
theorem dX12_taken_23 : decode cX12_taken 23 = .ok (.ireturn, 1) := by decide +kernel
theorem dX12_taken_24 : decode cX12_taken 24 = .ok (.aload_n 0, 1) := by decide +kernel
theorem dX12_taken_25 : decode cX12_taken 25 = .ok (.getfield 15, 3) := by decide +kernel
theorem dX12_taken_28 : decode cX12_taken 28 = .ok (.iload_n 1, 1) := by decide +kernel
theorem dX12_taken_29 : decode cX12_taken 29 = .ok (.iaload, 1) := by decide +kernel
theorem dX12_taken_30 : decode cX12_taken 30 = .ok (.istore_n 3, 1) := by decide +kernel
theorem dX12_taken_31 : decode cX12_taken 31 = .ok (.iload_n 3, 1) := by decide +kernel
theorem dX12_taken_32 : decode cX12_taken 32 = .ok (.iload_n 2, 1) := by decide +kernel
theorem dX12_taken_33 : decode cX12_taken 33 = .ok (.if_icmp .eq 15, 3) := by decide +kernel
theorem dX12_taken_36 : decode cX12_taken 36 = .ok (.iload_n 3, 1) := by decide +kernel
theorem dX12_taken_37 : decode cX12_taken 37 = .ok (.ifCond .le 11, 3) := by decide +kernel
theorem dX12_taken_40 : decode cX12_taken 40 = .ok (.iload_n 3, 1) := by decide +kernel
theorem dX12_taken_41 : decode cX12_taken 41 = .ok (.invokestatic 305, 3) := by decide +kernel
theorem dX12_taken_44 : decode cX12_taken 44 = .ok (.istore_n 3, 1) := by decide +kernel
theorem dX12_taken_45 : decode cX12_taken 45 = .ok (.goto (-14), 3) := by decide +kernel
theorem dX12_taken_48 : decode cX12_taken 48 = .ok (.iload_n 3, 1) := by decide +kernel
theorem dX12_taken_49 : decode cX12_taken 49 = .ok (.iload_n 2, 1) := by decide +kernel
theorem dX12_taken_50 : decode cX12_taken 50 = .ok (.if_icmp .ne 12, 3) := by decide +kernel
theorem dX12_taken_53 : decode cX12_taken 53 = .ok (.aload_n 0, 1) := by decide +kernel
theorem dX12_taken_54 : decode cX12_taken 54 = .ok (.getfield 15, 3) := by decide +kernel
theorem dX12_taken_57 : decode cX12_taken 57 = .ok (.iload_n 1, 1) := by decide +kernel
theorem dX12_taken_58 : decode cX12_taken 58 = .ok (.iaload, 1) := by decide +kernel
theorem dX12_taken_59 : decode cX12_taken 59 = .ok (.goto 5, 3) := by decide +kernel
theorem dX12_taken_62 : decode cX12_taken 62 = .ok (.bipush (-12), 2) := by decide +kernel
theorem dX12_taken_64 : decode cX12_taken 64 = .ok (.ireturn, 1) := by decide +kernel
theorem dX12_count_0 : decode cX12_count 0 = .ok (.iload_n 1, 1) := by decide +kernel
theorem dX12_count_1 : decode cX12_count 1 = .ok (.tableswitch 78 0 6 #[43, 48, 53, 58, 63, 68, 73], 43) := by decide +kernel
theorem dX12_count_44 : decode cX12_count 44 = .ok (.aload_n 0, 1) := by decide +kernel
theorem dX12_count_45 : decode cX12_count 45 = .ok (.getfield 105, 3) := by decide +kernel
theorem dX12_count_48 : decode cX12_count 48 = .ok (.ireturn, 1) := by decide +kernel
theorem dX12_count_49 : decode cX12_count 49 = .ok (.aload_n 0, 1) := by decide +kernel
theorem dX12_count_50 : decode cX12_count 50 = .ok (.getfield 202, 3) := by decide +kernel
theorem dX12_count_53 : decode cX12_count 53 = .ok (.ireturn, 1) := by decide +kernel
theorem dX12_count_54 : decode cX12_count 54 = .ok (.aload_n 0, 1) := by decide +kernel
theorem dX12_count_55 : decode cX12_count 55 = .ok (.getfield 273, 3) := by decide +kernel
theorem dX12_count_58 : decode cX12_count 58 = .ok (.ireturn, 1) := by decide +kernel
theorem dX12_count_59 : decode cX12_count 59 = .ok (.aload_n 0, 1) := by decide +kernel
theorem dX12_count_60 : decode cX12_count 60 = .ok (.getfield 285, 3) := by decide +kernel
theorem dX12_count_63 : decode cX12_count 63 = .ok (.ireturn, 1) := by decide +kernel
theorem dX12_count_64 : decode cX12_count 64 = .ok (.aload_n 0, 1) := by decide +kernel
theorem dX12_count_65 : decode cX12_count 65 = .ok (.getfield 288, 3) := by decide +kernel
theorem dX12_count_68 : decode cX12_count 68 = .ok (.ireturn, 1) := by decide +kernel
theorem dX12_count_69 : decode cX12_count 69 = .ok (.aload_n 0, 1) := by decide +kernel
theorem dX12_count_70 : decode cX12_count 70 = .ok (.getfield 130, 3) := by decide +kernel
theorem dX12_count_73 : decode cX12_count 73 = .ok (.ireturn, 1) := by decide +kernel
theorem dX12_count_74 : decode cX12_count 74 = .ok (.aload_n 0, 1) := by decide +kernel
theorem dX12_count_75 : decode cX12_count 75 = .ok (.getfield 295, 3) := by decide +kernel
theorem dX12_count_78 : decode cX12_count 78 = .ok (.ireturn, 1) := by decide +kernel
theorem dX12_count_79 : decode cX12_count 79 = .ok (.bipush (-2), 2) := by decide +kernel
theorem dX12_count_81 : decode cX12_count 81 = .ok (.ireturn, 1) := by decide +kernel
theorem dX12_isTape_0 : decode cX12_isTape 0 = .ok (.iload_n 0, 1) := by decide +kernel
theorem dX12_isTape_1 : decode cX12_isTape 1 = .ok (.iconst 0, 1) := by decide +kernel
theorem dX12_isTape_2 : decode cX12_isTape 2 = .ok (.iconst 5, 1) := by decide +kernel
theorem dX12_isTape_3 : decode cX12_isTape 3 = .ok (.invokestatic 108, 3) := by decide +kernel
theorem dX12_isTape_6 : decode cX12_isTape 6 = .ok (.ireturn, 1) := by decide +kernel
theorem dX12_tape_0 : decode cX12_tape 0 = .ok (.iload_n 1, 1) := by decide +kernel
theorem dX12_tape_1 : decode cX12_tape 1 = .ok (.invokestatic 314, 3) := by decide +kernel
theorem dX12_tape_4 : decode cX12_tape 4 = .ok (.ifCond .ne 5, 3) := by decide +kernel
theorem dX12_tape_7 : decode cX12_tape 7 = .ok (.iconst (-1), 1) := by decide +kernel
theorem dX12_tape_8 : decode cX12_tape 8 = .ok (.ireturn, 1) := by decide +kernel
theorem dX12_tape_9 : decode cX12_tape 9 = .ok (.iload_n 2, 1) := by decide +kernel
theorem dX12_tape_10 : decode cX12_tape 10 = .ok (.iconst (-1), 1) := by decide +kernel
theorem dX12_tape_11 : decode cX12_tape 11 = .ok (.iconst 4, 1) := by decide +kernel
theorem dX12_tape_12 : decode cX12_tape 12 = .ok (.invokestatic 108, 3) := by decide +kernel
theorem dX12_tape_15 : decode cX12_tape 15 = .ok (.ifCond .eq 13, 3) := by decide +kernel
theorem dX12_tape_18 : decode cX12_tape 18 = .ok (.iload_n 2, 1) := by decide +kernel
theorem dX12_tape_19 : decode cX12_tape 19 = .ok (.ifCond .lt 12, 3) := by decide +kernel
theorem dX12_tape_22 : decode cX12_tape 22 = .ok (.iload_n 3, 1) := by decide +kernel
theorem dX12_tape_23 : decode cX12_tape 23 = .ok (.bipush 60, 2) := by decide +kernel
theorem dX12_tape_25 : decode cX12_tape 25 = .ok (.if_icmp .le 6, 3) := by decide +kernel
theorem dX12_tape_28 : decode cX12_tape 28 = .ok (.bipush (-2), 2) := by decide +kernel
theorem dX12_tape_30 : decode cX12_tape 30 = .ok (.ireturn, 1) := by decide +kernel
theorem dX12_tape_31 : decode cX12_tape 31 = .ok (.iload_n 2, 1) := by decide +kernel
theorem dX12_tape_32 : decode cX12_tape 32 = .ok (.ifCond .lt 10, 3) := by decide +kernel
theorem dX12_tape_35 : decode cX12_tape 35 = .ok (.iload_n 3, 1) := by decide +kernel
theorem dX12_tape_36 : decode cX12_tape 36 = .ok (.ifCond .ge 6, 3) := by decide +kernel
theorem dX12_tape_39 : decode cX12_tape 39 = .ok (.bipush (-14), 2) := by decide +kernel
theorem dX12_tape_41 : decode cX12_tape 41 = .ok (.ireturn, 1) := by decide +kernel
theorem dX12_tape_42 : decode cX12_tape 42 = .ok (.aload_n 0, 1) := by decide +kernel
theorem dX12_tape_43 : decode cX12_tape 43 = .ok (.getfield 91, 3) := by decide +kernel
theorem dX12_tape_46 : decode cX12_tape 46 = .ok (.iload_n 1, 1) := by decide +kernel
theorem dX12_tape_47 : decode cX12_tape 47 = .ok (.iload_n 2, 1) := by decide +kernel
theorem dX12_tape_48 : decode cX12_tape 48 = .ok (.iastore, 1) := by decide +kernel
theorem dX12_tape_49 : decode cX12_tape 49 = .ok (.aload_n 0, 1) := by decide +kernel
theorem dX12_tape_50 : decode cX12_tape 50 = .ok (.getfield 94, 3) := by decide +kernel
theorem dX12_tape_53 : decode cX12_tape 53 = .ok (.iload_n 1, 1) := by decide +kernel
theorem dX12_tape_54 : decode cX12_tape 54 = .ok (.iload_n 2, 1) := by decide +kernel
theorem dX12_tape_55 : decode cX12_tape 55 = .ok (.ifCond .ge 7, 3) := by decide +kernel
theorem dX12_tape_58 : decode cX12_tape 58 = .ok (.iconst 0, 1) := by decide +kernel
theorem dX12_tape_59 : decode cX12_tape 59 = .ok (.goto 4, 3) := by decide +kernel
theorem dX12_tape_62 : decode cX12_tape 62 = .ok (.iload_n 3, 1) := by decide +kernel
theorem dX12_tape_63 : decode cX12_tape 63 = .ok (.iastore, 1) := by decide +kernel
theorem dX12_tape_64 : decode cX12_tape 64 = .ok (.iconst 0, 1) := by decide +kernel
theorem dX12_tape_65 : decode cX12_tape 65 = .ok (.istore 4, 2) := by decide +kernel
theorem dX12_tape_67 : decode cX12_tape 67 = .ok (.iload 4, 2) := by decide +kernel
theorem dX12_tape_69 : decode cX12_tape 69 = .ok (.bipush 60, 2) := by decide +kernel
theorem dX12_tape_71 : decode cX12_tape 71 = .ok (.if_icmp .ge 22, 3) := by decide +kernel
theorem dX12_tape_74 : decode cX12_tape 74 = .ok (.aload_n 0, 1) := by decide +kernel
theorem dX12_tape_75 : decode cX12_tape 75 = .ok (.getfield 97, 3) := by decide +kernel
theorem dX12_tape_78 : decode cX12_tape 78 = .ok (.bipush 60, 2) := by decide +kernel
theorem dX12_tape_80 : decode cX12_tape 80 = .ok (.iload_n 1, 1) := by decide +kernel
theorem dX12_tape_81 : decode cX12_tape 81 = .ok (.imul, 1) := by decide +kernel
theorem dX12_tape_82 : decode cX12_tape 82 = .ok (.iload 4, 2) := by decide +kernel
theorem dX12_tape_84 : decode cX12_tape 84 = .ok (.iadd, 1) := by decide +kernel
theorem dX12_tape_85 : decode cX12_tape 85 = .ok (.lconst 0, 1) := by decide +kernel
theorem dX12_tape_86 : decode cX12_tape 86 = .ok (.lastore, 1) := by decide +kernel
theorem dX12_tape_87 : decode cX12_tape 87 = .ok (.iinc 4 1, 3) := by decide +kernel
theorem dX12_tape_90 : decode cX12_tape 90 = .ok (.goto (-23), 3) := by decide +kernel
theorem dX12_tape_93 : decode cX12_tape 93 = .ok (.iconst 1, 1) := by decide +kernel
theorem dX12_tape_94 : decode cX12_tape 94 = .ok (.ireturn, 1) := by decide +kernel
theorem dX12_kept_0 : decode cX12_kept 0 = .ok (.iload_n 0, 1) := by decide +kernel
theorem dX12_kept_1 : decode cX12_kept 1 = .ok (.tableswitch 47 0 3 #[31, 36, 41, 45], 31) := by decide +kernel
theorem dX12_kept_32 : decode cX12_kept 32 = .ok (.lload_n 1, 1) := by decide +kernel
theorem dX12_kept_33 : decode cX12_kept 33 = .ok (.l2i, 1) := by decide +kernel
theorem dX12_kept_34 : decode cX12_kept 34 = .ok (.i2b, 1) := by decide +kernel
theorem dX12_kept_35 : decode cX12_kept 35 = .ok (.i2l, 1) := by decide +kernel
theorem dX12_kept_36 : decode cX12_kept 36 = .ok (.lreturn, 1) := by decide +kernel
theorem dX12_kept_37 : decode cX12_kept 37 = .ok (.lload_n 1, 1) := by decide +kernel
theorem dX12_kept_38 : decode cX12_kept 38 = .ok (.l2i, 1) := by decide +kernel
theorem dX12_kept_39 : decode cX12_kept 39 = .ok (.i2s, 1) := by decide +kernel
theorem dX12_kept_40 : decode cX12_kept 40 = .ok (.i2l, 1) := by decide +kernel
theorem dX12_kept_41 : decode cX12_kept 41 = .ok (.lreturn, 1) := by decide +kernel
theorem dX12_kept_42 : decode cX12_kept 42 = .ok (.lload_n 1, 1) := by decide +kernel
theorem dX12_kept_43 : decode cX12_kept 43 = .ok (.l2i, 1) := by decide +kernel
theorem dX12_kept_44 : decode cX12_kept 44 = .ok (.i2l, 1) := by decide +kernel
theorem dX12_kept_45 : decode cX12_kept 45 = .ok (.lreturn, 1) := by decide +kernel
theorem dX12_kept_46 : decode cX12_kept 46 = .ok (.lload_n 1, 1) := by decide +kernel
theorem dX12_kept_47 : decode cX12_kept 47 = .ok (.lreturn, 1) := by decide +kernel
theorem dX12_kept_48 : decode cX12_kept 48 = .ok (.lload_n 1, 1) := by decide +kernel
theorem dX12_kept_49 : decode cX12_kept 49 = .ok (.lconst 0, 1) := by decide +kernel
theorem dX12_kept_50 : decode cX12_kept 50 = .ok (.lcmp, 1) := by decide +kernel
theorem dX12_kept_51 : decode cX12_kept 51 = .ok (.ifCond .eq 7, 3) := by decide +kernel
theorem dX12_kept_54 : decode cX12_kept 54 = .ok (.lconst 1, 1) := by decide +kernel
theorem dX12_kept_55 : decode cX12_kept 55 = .ok (.goto 4, 3) := by decide +kernel
theorem dX12_kept_58 : decode cX12_kept 58 = .ok (.lconst 0, 1) := by decide +kernel
theorem dX12_kept_59 : decode cX12_kept 59 = .ok (.lreturn, 1) := by decide +kernel
theorem dX12_item_0 : decode cX12_item 0 = .ok (.iload_n 1, 1) := by decide +kernel
theorem dX12_item_1 : decode cX12_item 1 = .ok (.invokestatic 314, 3) := by decide +kernel
theorem dX12_item_4 : decode cX12_item 4 = .ok (.ifCond .ne 5, 3) := by decide +kernel
theorem dX12_item_7 : decode cX12_item 7 = .ok (.iconst (-1), 1) := by decide +kernel
theorem dX12_item_8 : decode cX12_item 8 = .ok (.ireturn, 1) := by decide +kernel
theorem dX12_item_9 : decode cX12_item 9 = .ok (.aload_n 0, 1) := by decide +kernel
theorem dX12_item_10 : decode cX12_item 10 = .ok (.getfield 91, 3) := by decide +kernel
theorem dX12_item_13 : decode cX12_item 13 = .ok (.iload_n 1, 1) := by decide +kernel
theorem dX12_item_14 : decode cX12_item 14 = .ok (.iaload, 1) := by decide +kernel
theorem dX12_item_15 : decode cX12_item 15 = .ok (.ifCond .ge 6, 3) := by decide +kernel
theorem dX12_item_18 : decode cX12_item 18 = .ok (.bipush (-11), 2) := by decide +kernel
theorem dX12_item_20 : decode cX12_item 20 = .ok (.ireturn, 1) := by decide +kernel
theorem dX12_item_21 : decode cX12_item 21 = .ok (.iload_n 2, 1) := by decide +kernel
theorem dX12_item_22 : decode cX12_item 22 = .ok (.iconst 0, 1) := by decide +kernel
theorem dX12_item_23 : decode cX12_item 23 = .ok (.aload_n 0, 1) := by decide +kernel
theorem dX12_item_24 : decode cX12_item 24 = .ok (.getfield 94, 3) := by decide +kernel
theorem dX12_item_27 : decode cX12_item 27 = .ok (.iload_n 1, 1) := by decide +kernel
theorem dX12_item_28 : decode cX12_item 28 = .ok (.iaload, 1) := by decide +kernel
theorem dX12_item_29 : decode cX12_item 29 = .ok (.iconst 1, 1) := by decide +kernel
theorem dX12_item_30 : decode cX12_item 30 = .ok (.isub, 1) := by decide +kernel
theorem dX12_item_31 : decode cX12_item 31 = .ok (.invokestatic 108, 3) := by decide +kernel
theorem dX12_item_34 : decode cX12_item 34 = .ok (.ifCond .ne 6, 3) := by decide +kernel
theorem dX12_item_37 : decode cX12_item 37 = .ok (.bipush (-13), 2) := by decide +kernel
theorem dX12_item_39 : decode cX12_item 39 = .ok (.ireturn, 1) := by decide +kernel
theorem dX12_item_40 : decode cX12_item 40 = .ok (.aload_n 0, 1) := by decide +kernel
theorem dX12_item_41 : decode cX12_item 41 = .ok (.getfield 97, 3) := by decide +kernel
theorem dX12_item_44 : decode cX12_item 44 = .ok (.bipush 60, 2) := by decide +kernel
theorem dX12_item_46 : decode cX12_item 46 = .ok (.iload_n 1, 1) := by decide +kernel
theorem dX12_item_47 : decode cX12_item 47 = .ok (.imul, 1) := by decide +kernel
theorem dX12_item_48 : decode cX12_item 48 = .ok (.iload_n 2, 1) := by decide +kernel
theorem dX12_item_49 : decode cX12_item 49 = .ok (.iadd, 1) := by decide +kernel
theorem dX12_item_50 : decode cX12_item 50 = .ok (.aload_n 0, 1) := by decide +kernel
theorem dX12_item_51 : decode cX12_item 51 = .ok (.getfield 91, 3) := by decide +kernel
theorem dX12_item_54 : decode cX12_item 54 = .ok (.iload_n 1, 1) := by decide +kernel
theorem dX12_item_55 : decode cX12_item 55 = .ok (.iaload, 1) := by decide +kernel
theorem dX12_item_56 : decode cX12_item 56 = .ok (.lload_n 3, 1) := by decide +kernel
theorem dX12_item_57 : decode cX12_item 57 = .ok (.invokestatic 317, 3) := by decide +kernel
theorem dX12_item_60 : decode cX12_item 60 = .ok (.lastore, 1) := by decide +kernel
theorem dX12_item_61 : decode cX12_item 61 = .ok (.iconst 1, 1) := by decide +kernel
theorem dX12_item_62 : decode cX12_item 62 = .ok (.ireturn, 1) := by decide +kernel
theorem dX12_read_0 : decode cX12_read 0 = .ok (.iload_n 1, 1) := by decide +kernel
theorem dX12_read_1 : decode cX12_read 1 = .ok (.invokestatic 314, 3) := by decide +kernel
theorem dX12_read_4 : decode cX12_read 4 = .ok (.ifCond .eq 42, 3) := by decide +kernel
theorem dX12_read_7 : decode cX12_read 7 = .ok (.aload_n 0, 1) := by decide +kernel
theorem dX12_read_8 : decode cX12_read 8 = .ok (.getfield 91, 3) := by decide +kernel
theorem dX12_read_11 : decode cX12_read 11 = .ok (.iload_n 1, 1) := by decide +kernel
theorem dX12_read_12 : decode cX12_read 12 = .ok (.iaload, 1) := by decide +kernel
theorem dX12_read_13 : decode cX12_read 13 = .ok (.ifCond .lt 33, 3) := by decide +kernel
theorem dX12_read_16 : decode cX12_read 16 = .ok (.iload_n 2, 1) := by decide +kernel
theorem dX12_read_17 : decode cX12_read 17 = .ok (.iconst 0, 1) := by decide +kernel
theorem dX12_read_18 : decode cX12_read 18 = .ok (.aload_n 0, 1) := by decide +kernel
theorem dX12_read_19 : decode cX12_read 19 = .ok (.getfield 94, 3) := by decide +kernel
theorem dX12_read_22 : decode cX12_read 22 = .ok (.iload_n 1, 1) := by decide +kernel
theorem dX12_read_23 : decode cX12_read 23 = .ok (.iaload, 1) := by decide +kernel
theorem dX12_read_24 : decode cX12_read 24 = .ok (.iconst 1, 1) := by decide +kernel
theorem dX12_read_25 : decode cX12_read 25 = .ok (.isub, 1) := by decide +kernel
theorem dX12_read_26 : decode cX12_read 26 = .ok (.invokestatic 108, 3) := by decide +kernel
theorem dX12_read_29 : decode cX12_read 29 = .ok (.ifCond .eq 17, 3) := by decide +kernel
theorem dX12_read_32 : decode cX12_read 32 = .ok (.aload_n 0, 1) := by decide +kernel
theorem dX12_read_33 : decode cX12_read 33 = .ok (.getfield 97, 3) := by decide +kernel
theorem dX12_read_36 : decode cX12_read 36 = .ok (.bipush 60, 2) := by decide +kernel
theorem dX12_read_38 : decode cX12_read 38 = .ok (.iload_n 1, 1) := by decide +kernel
theorem dX12_read_39 : decode cX12_read 39 = .ok (.imul, 1) := by decide +kernel
theorem dX12_read_40 : decode cX12_read 40 = .ok (.iload_n 2, 1) := by decide +kernel
theorem dX12_read_41 : decode cX12_read 41 = .ok (.iadd, 1) := by decide +kernel
theorem dX12_read_42 : decode cX12_read 42 = .ok (.laload, 1) := by decide +kernel
theorem dX12_read_43 : decode cX12_read 43 = .ok (.goto 6, 3) := by decide +kernel
theorem dX12_read_46 : decode cX12_read 46 = .ok (.ldc2_w 279, 3) := by decide +kernel
theorem dX12_read_49 : decode cX12_read 49 = .ok (.lreturn, 1) := by decide +kernel
theorem dX12_shift_0 : decode cX12_shift 0 = .ok (.iload_n 1, 1) := by decide +kernel
theorem dX12_shift_1 : decode cX12_shift 1 = .ok (.invokestatic 314, 3) := by decide +kernel
theorem dX12_shift_4 : decode cX12_shift 4 = .ok (.ifCond .eq 10, 3) := by decide +kernel
theorem dX12_shift_7 : decode cX12_shift 7 = .ok (.iload_n 3, 1) := by decide +kernel
theorem dX12_shift_8 : decode cX12_shift 8 = .ok (.invokestatic 314, 3) := by decide +kernel
theorem dX12_shift_11 : decode cX12_shift 11 = .ok (.ifCond .ne 5, 3) := by decide +kernel
theorem dX12_shift_14 : decode cX12_shift 14 = .ok (.iconst (-1), 1) := by decide +kernel
theorem dX12_shift_15 : decode cX12_shift 15 = .ok (.ireturn, 1) := by decide +kernel
theorem dX12_shift_16 : decode cX12_shift 16 = .ok (.aload_n 0, 1) := by decide +kernel
theorem dX12_shift_17 : decode cX12_shift 17 = .ok (.getfield 91, 3) := by decide +kernel
theorem dX12_shift_20 : decode cX12_shift 20 = .ok (.iload_n 1, 1) := by decide +kernel
theorem dX12_shift_21 : decode cX12_shift 21 = .ok (.iaload, 1) := by decide +kernel
theorem dX12_shift_22 : decode cX12_shift 22 = .ok (.ifCond .lt 12, 3) := by decide +kernel
theorem dX12_shift_25 : decode cX12_shift 25 = .ok (.aload_n 0, 1) := by decide +kernel
theorem dX12_shift_26 : decode cX12_shift 26 = .ok (.getfield 91, 3) := by decide +kernel
theorem dX12_shift_29 : decode cX12_shift 29 = .ok (.iload_n 3, 1) := by decide +kernel
theorem dX12_shift_30 : decode cX12_shift 30 = .ok (.iaload, 1) := by decide +kernel
theorem dX12_shift_31 : decode cX12_shift 31 = .ok (.ifCond .ge 6, 3) := by decide +kernel
theorem dX12_shift_34 : decode cX12_shift 34 = .ok (.bipush (-11), 2) := by decide +kernel
theorem dX12_shift_36 : decode cX12_shift 36 = .ok (.ireturn, 1) := by decide +kernel
theorem dX12_shift_37 : decode cX12_shift 37 = .ok (.aload_n 0, 1) := by decide +kernel
theorem dX12_shift_38 : decode cX12_shift 38 = .ok (.getfield 91, 3) := by decide +kernel
theorem dX12_shift_41 : decode cX12_shift 41 = .ok (.iload_n 1, 1) := by decide +kernel
theorem dX12_shift_42 : decode cX12_shift 42 = .ok (.iaload, 1) := by decide +kernel
theorem dX12_shift_43 : decode cX12_shift 43 = .ok (.aload_n 0, 1) := by decide +kernel
theorem dX12_shift_44 : decode cX12_shift 44 = .ok (.getfield 91, 3) := by decide +kernel
theorem dX12_shift_47 : decode cX12_shift 47 = .ok (.iload_n 3, 1) := by decide +kernel
theorem dX12_shift_48 : decode cX12_shift 48 = .ok (.iaload, 1) := by decide +kernel
theorem dX12_shift_49 : decode cX12_shift 49 = .ok (.if_icmp .eq 6, 3) := by decide +kernel
theorem dX12_shift_52 : decode cX12_shift 52 = .ok (.bipush (-12), 2) := by decide +kernel
theorem dX12_shift_54 : decode cX12_shift 54 = .ok (.ireturn, 1) := by decide +kernel
theorem dX12_shift_55 : decode cX12_shift 55 = .ok (.iload 5, 2) := by decide +kernel
theorem dX12_shift_57 : decode cX12_shift 57 = .ok (.ifCond .lt 47, 3) := by decide +kernel
theorem dX12_shift_60 : decode cX12_shift 60 = .ok (.iload_n 2, 1) := by decide +kernel
theorem dX12_shift_61 : decode cX12_shift 61 = .ok (.ifCond .lt 43, 3) := by decide +kernel
theorem dX12_shift_64 : decode cX12_shift 64 = .ok (.iload 4, 2) := by decide +kernel
theorem dX12_shift_66 : decode cX12_shift 66 = .ok (.ifCond .lt 38, 3) := by decide +kernel
theorem dX12_shift_69 : decode cX12_shift 69 = .ok (.iload_n 2, 1) := by decide +kernel
theorem dX12_shift_70 : decode cX12_shift 70 = .ok (.i2l, 1) := by decide +kernel
theorem dX12_shift_71 : decode cX12_shift 71 = .ok (.iload 5, 2) := by decide +kernel
theorem dX12_shift_73 : decode cX12_shift 73 = .ok (.i2l, 1) := by decide +kernel
theorem dX12_shift_74 : decode cX12_shift 74 = .ok (.ladd, 1) := by decide +kernel
theorem dX12_shift_75 : decode cX12_shift 75 = .ok (.aload_n 0, 1) := by decide +kernel
theorem dX12_shift_76 : decode cX12_shift 76 = .ok (.getfield 94, 3) := by decide +kernel
theorem dX12_shift_79 : decode cX12_shift 79 = .ok (.iload_n 1, 1) := by decide +kernel
theorem dX12_shift_80 : decode cX12_shift 80 = .ok (.iaload, 1) := by decide +kernel
theorem dX12_shift_81 : decode cX12_shift 81 = .ok (.i2l, 1) := by decide +kernel
theorem dX12_shift_82 : decode cX12_shift 82 = .ok (.lcmp, 1) := by decide +kernel
theorem dX12_shift_83 : decode cX12_shift 83 = .ok (.ifCond .gt 21, 3) := by decide +kernel
theorem dX12_shift_86 : decode cX12_shift 86 = .ok (.iload 4, 2) := by decide +kernel
theorem dX12_shift_88 : decode cX12_shift 88 = .ok (.i2l, 1) := by decide +kernel
theorem dX12_shift_89 : decode cX12_shift 89 = .ok (.iload 5, 2) := by decide +kernel
theorem dX12_shift_91 : decode cX12_shift 91 = .ok (.i2l, 1) := by decide +kernel
theorem dX12_shift_92 : decode cX12_shift 92 = .ok (.ladd, 1) := by decide +kernel
theorem dX12_shift_93 : decode cX12_shift 93 = .ok (.aload_n 0, 1) := by decide +kernel
theorem dX12_shift_94 : decode cX12_shift 94 = .ok (.getfield 94, 3) := by decide +kernel
theorem dX12_shift_97 : decode cX12_shift 97 = .ok (.iload_n 3, 1) := by decide +kernel
theorem dX12_shift_98 : decode cX12_shift 98 = .ok (.iaload, 1) := by decide +kernel
theorem dX12_shift_99 : decode cX12_shift 99 = .ok (.i2l, 1) := by decide +kernel
theorem dX12_shift_100 : decode cX12_shift 100 = .ok (.lcmp, 1) := by decide +kernel
theorem dX12_shift_101 : decode cX12_shift 101 = .ok (.ifCond .le 6, 3) := by decide +kernel
theorem dX12_shift_104 : decode cX12_shift 104 = .ok (.bipush (-13), 2) := by decide +kernel
theorem dX12_shift_106 : decode cX12_shift 106 = .ok (.ireturn, 1) := by decide +kernel
theorem dX12_shift_107 : decode cX12_shift 107 = .ok (.iload_n 1, 1) := by decide +kernel
theorem dX12_shift_108 : decode cX12_shift 108 = .ok (.iload_n 3, 1) := by decide +kernel
theorem dX12_shift_109 : decode cX12_shift 109 = .ok (.if_icmp .ne 58, 3) := by decide +kernel
theorem dX12_shift_112 : decode cX12_shift 112 = .ok (.iload_n 2, 1) := by decide +kernel
theorem dX12_shift_113 : decode cX12_shift 113 = .ok (.iload 4, 2) := by decide +kernel
theorem dX12_shift_115 : decode cX12_shift 115 = .ok (.if_icmp .ge 52, 3) := by decide +kernel
theorem dX12_shift_118 : decode cX12_shift 118 = .ok (.iload 5, 2) := by decide +kernel
theorem dX12_shift_120 : decode cX12_shift 120 = .ok (.iconst 1, 1) := by decide +kernel
theorem dX12_shift_121 : decode cX12_shift 121 = .ok (.isub, 1) := by decide +kernel
theorem dX12_shift_122 : decode cX12_shift 122 = .ok (.istore 6, 2) := by decide +kernel
theorem dX12_shift_124 : decode cX12_shift 124 = .ok (.iload 6, 2) := by decide +kernel
theorem dX12_shift_126 : decode cX12_shift 126 = .ok (.ifCond .lt 38, 3) := by decide +kernel
theorem dX12_shift_129 : decode cX12_shift 129 = .ok (.aload_n 0, 1) := by decide +kernel
theorem dX12_shift_130 : decode cX12_shift 130 = .ok (.getfield 97, 3) := by decide +kernel
theorem dX12_shift_133 : decode cX12_shift 133 = .ok (.bipush 60, 2) := by decide +kernel
theorem dX12_shift_135 : decode cX12_shift 135 = .ok (.iload_n 3, 1) := by decide +kernel
theorem dX12_shift_136 : decode cX12_shift 136 = .ok (.imul, 1) := by decide +kernel
theorem dX12_shift_137 : decode cX12_shift 137 = .ok (.iload 4, 2) := by decide +kernel
theorem dX12_shift_139 : decode cX12_shift 139 = .ok (.iadd, 1) := by decide +kernel
theorem dX12_shift_140 : decode cX12_shift 140 = .ok (.iload 6, 2) := by decide +kernel
theorem dX12_shift_142 : decode cX12_shift 142 = .ok (.iadd, 1) := by decide +kernel
theorem dX12_shift_143 : decode cX12_shift 143 = .ok (.aload_n 0, 1) := by decide +kernel
theorem dX12_shift_144 : decode cX12_shift 144 = .ok (.getfield 97, 3) := by decide +kernel
theorem dX12_shift_147 : decode cX12_shift 147 = .ok (.bipush 60, 2) := by decide +kernel
theorem dX12_shift_149 : decode cX12_shift 149 = .ok (.iload_n 1, 1) := by decide +kernel
theorem dX12_shift_150 : decode cX12_shift 150 = .ok (.imul, 1) := by decide +kernel
theorem dX12_shift_151 : decode cX12_shift 151 = .ok (.iload_n 2, 1) := by decide +kernel
theorem dX12_shift_152 : decode cX12_shift 152 = .ok (.iadd, 1) := by decide +kernel
theorem dX12_shift_153 : decode cX12_shift 153 = .ok (.iload 6, 2) := by decide +kernel
theorem dX12_shift_155 : decode cX12_shift 155 = .ok (.iadd, 1) := by decide +kernel
theorem dX12_shift_156 : decode cX12_shift 156 = .ok (.laload, 1) := by decide +kernel
theorem dX12_shift_157 : decode cX12_shift 157 = .ok (.lastore, 1) := by decide +kernel
theorem dX12_shift_158 : decode cX12_shift 158 = .ok (.iinc 6 (-1), 3) := by decide +kernel
theorem dX12_shift_161 : decode cX12_shift 161 = .ok (.goto (-37), 3) := by decide +kernel
theorem dX12_shift_164 : decode cX12_shift 164 = .ok (.goto 48, 3) := by decide +kernel
theorem dX12_shift_167 : decode cX12_shift 167 = .ok (.iconst 0, 1) := by decide +kernel
theorem dX12_shift_168 : decode cX12_shift 168 = .ok (.istore 6, 2) := by decide +kernel
theorem dX12_shift_170 : decode cX12_shift 170 = .ok (.iload 6, 2) := by decide +kernel
theorem dX12_shift_172 : decode cX12_shift 172 = .ok (.iload 5, 2) := by decide +kernel
theorem dX12_shift_174 : decode cX12_shift 174 = .ok (.if_icmp .ge 38, 3) := by decide +kernel
theorem dX12_shift_177 : decode cX12_shift 177 = .ok (.aload_n 0, 1) := by decide +kernel
theorem dX12_shift_178 : decode cX12_shift 178 = .ok (.getfield 97, 3) := by decide +kernel
theorem dX12_shift_181 : decode cX12_shift 181 = .ok (.bipush 60, 2) := by decide +kernel
theorem dX12_shift_183 : decode cX12_shift 183 = .ok (.iload_n 3, 1) := by decide +kernel
theorem dX12_shift_184 : decode cX12_shift 184 = .ok (.imul, 1) := by decide +kernel
theorem dX12_shift_185 : decode cX12_shift 185 = .ok (.iload 4, 2) := by decide +kernel
theorem dX12_shift_187 : decode cX12_shift 187 = .ok (.iadd, 1) := by decide +kernel
theorem dX12_shift_188 : decode cX12_shift 188 = .ok (.iload 6, 2) := by decide +kernel
theorem dX12_shift_190 : decode cX12_shift 190 = .ok (.iadd, 1) := by decide +kernel
theorem dX12_shift_191 : decode cX12_shift 191 = .ok (.aload_n 0, 1) := by decide +kernel
theorem dX12_shift_192 : decode cX12_shift 192 = .ok (.getfield 97, 3) := by decide +kernel
theorem dX12_shift_195 : decode cX12_shift 195 = .ok (.bipush 60, 2) := by decide +kernel
theorem dX12_shift_197 : decode cX12_shift 197 = .ok (.iload_n 1, 1) := by decide +kernel
theorem dX12_shift_198 : decode cX12_shift 198 = .ok (.imul, 1) := by decide +kernel
theorem dX12_shift_199 : decode cX12_shift 199 = .ok (.iload_n 2, 1) := by decide +kernel
theorem dX12_shift_200 : decode cX12_shift 200 = .ok (.iadd, 1) := by decide +kernel
theorem dX12_shift_201 : decode cX12_shift 201 = .ok (.iload 6, 2) := by decide +kernel
theorem dX12_shift_203 : decode cX12_shift 203 = .ok (.iadd, 1) := by decide +kernel
theorem dX12_shift_204 : decode cX12_shift 204 = .ok (.laload, 1) := by decide +kernel
theorem dX12_shift_205 : decode cX12_shift 205 = .ok (.lastore, 1) := by decide +kernel
theorem dX12_shift_206 : decode cX12_shift 206 = .ok (.iinc 6 1, 3) := by decide +kernel
theorem dX12_shift_209 : decode cX12_shift 209 = .ok (.goto (-39), 3) := by decide +kernel
theorem dX12_shift_212 : decode cX12_shift 212 = .ok (.iload 5, 2) := by decide +kernel
theorem dX12_shift_214 : decode cX12_shift 214 = .ok (.ireturn, 1) := by decide +kernel
end
section
theorem dL_law_0 : decode cL_law 0 = .ok (.new 7, 3) := by decide +kernel
theorem dL_law_3 : decode cL_law 3 = .ok (.dup, 1) := by decide +kernel
theorem dL_law_4 : decode cL_law 4 = .ok (.invokespecial 9, 3) := by decide +kernel
theorem dL_law_7 : decode cL_law 7 = .ok (.astore_n 1, 1) := by decide +kernel
theorem dL_law_8 : decode cL_law 8 = .ok (.new 10, 3) := by decide +kernel
theorem dL_law_11 : decode cL_law 11 = .ok (.dup, 1) := by decide +kernel
theorem dL_law_12 : decode cL_law 12 = .ok (.invokespecial 12, 3) := by decide +kernel
theorem dL_law_15 : decode cL_law 15 = .ok (.astore_n 2, 1) := by decide +kernel
theorem dL_law_16 : decode cL_law 16 = .ok (.iconst 0, 1) := by decide +kernel
theorem dL_law_17 : decode cL_law 17 = .ok (.istore_n 3, 1) := by decide +kernel
theorem dL_law_18 : decode cL_law 18 = .ok (.iload_n 3, 1) := by decide +kernel
theorem dL_law_19 : decode cL_law 19 = .ok (.aload_n 0, 1) := by decide +kernel
theorem dL_law_20 : decode cL_law 20 = .ok (.arraylength, 1) := by decide +kernel
theorem dL_law_21 : decode cL_law 21 = .ok (.bipush 6, 2) := by decide +kernel
theorem dL_law_23 : decode cL_law 23 = .ok (.isub, 1) := by decide +kernel
theorem dL_law_24 : decode cL_law 24 = .ok (.if_icmp .gt 1297, 3) := by decide +kernel
theorem dL_law_27 : decode cL_law 27 = .ok (.aload_n 0, 1) := by decide +kernel
theorem dL_law_28 : decode cL_law 28 = .ok (.iload_n 3, 1) := by decide +kernel
theorem dL_law_29 : decode cL_law 29 = .ok (.iaload, 1) := by decide +kernel
theorem dL_law_30 : decode cL_law 30 = .ok (.bipush 63, 2) := by decide +kernel
theorem dL_law_32 : decode cL_law 32 = .ok (.iand, 1) := by decide +kernel
theorem dL_law_33 : decode cL_law 33 = .ok (.tableswitch 1282 0 33 #[151, 194, 227, 260, 293, 326, 375, 418, 441, 454, 477, 500, 533, 576, 609, 652, 675, 708, 752, 786, 819, 842, 875, 888, 921, 934, 947, 990, 1013, 1046, 1069, 1112, 1185, 1219], 151) := by decide +kernel
theorem dL_law_184 : decode cL_law 184 = .ok (.aload_n 1, 1) := by decide +kernel
theorem dL_law_185 : decode cL_law 185 = .ok (.aload_n 0, 1) := by decide +kernel
theorem dL_law_186 : decode cL_law 186 = .ok (.iload_n 3, 1) := by decide +kernel
theorem dL_law_187 : decode cL_law 187 = .ok (.iconst 1, 1) := by decide +kernel
theorem dL_law_188 : decode cL_law 188 = .ok (.iadd, 1) := by decide +kernel
theorem dL_law_189 : decode cL_law 189 = .ok (.iaload, 1) := by decide +kernel
theorem dL_law_190 : decode cL_law 190 = .ok (.aload_n 0, 1) := by decide +kernel
theorem dL_law_191 : decode cL_law 191 = .ok (.iload_n 3, 1) := by decide +kernel
theorem dL_law_192 : decode cL_law 192 = .ok (.iconst 2, 1) := by decide +kernel
theorem dL_law_193 : decode cL_law 193 = .ok (.iadd, 1) := by decide +kernel
theorem dL_law_194 : decode cL_law 194 = .ok (.iaload, 1) := by decide +kernel
theorem dL_law_195 : decode cL_law 195 = .ok (.aload_n 0, 1) := by decide +kernel
theorem dL_law_196 : decode cL_law 196 = .ok (.iload_n 3, 1) := by decide +kernel
theorem dL_law_197 : decode cL_law 197 = .ok (.iconst 3, 1) := by decide +kernel
theorem dL_law_198 : decode cL_law 198 = .ok (.iadd, 1) := by decide +kernel
theorem dL_law_199 : decode cL_law 199 = .ok (.iaload, 1) := by decide +kernel
theorem dL_law_200 : decode cL_law 200 = .ok (.invokevirtual 13, 3) := by decide +kernel
theorem dL_law_203 : decode cL_law 203 = .ok (.aload_n 2, 1) := by decide +kernel
theorem dL_law_204 : decode cL_law 204 = .ok (.aload_n 0, 1) := by decide +kernel
theorem dL_law_205 : decode cL_law 205 = .ok (.iload_n 3, 1) := by decide +kernel
theorem dL_law_206 : decode cL_law 206 = .ok (.iconst 1, 1) := by decide +kernel
theorem dL_law_207 : decode cL_law 207 = .ok (.iadd, 1) := by decide +kernel
theorem dL_law_208 : decode cL_law 208 = .ok (.iaload, 1) := by decide +kernel
theorem dL_law_209 : decode cL_law 209 = .ok (.aload_n 0, 1) := by decide +kernel
theorem dL_law_210 : decode cL_law 210 = .ok (.iload_n 3, 1) := by decide +kernel
theorem dL_law_211 : decode cL_law 211 = .ok (.iconst 2, 1) := by decide +kernel
theorem dL_law_212 : decode cL_law 212 = .ok (.iadd, 1) := by decide +kernel
theorem dL_law_213 : decode cL_law 213 = .ok (.iaload, 1) := by decide +kernel
theorem dL_law_214 : decode cL_law 214 = .ok (.aload_n 0, 1) := by decide +kernel
theorem dL_law_215 : decode cL_law 215 = .ok (.iload_n 3, 1) := by decide +kernel
theorem dL_law_216 : decode cL_law 216 = .ok (.iconst 3, 1) := by decide +kernel
theorem dL_law_217 : decode cL_law 217 = .ok (.iadd, 1) := by decide +kernel
theorem dL_law_218 : decode cL_law 218 = .ok (.iaload, 1) := by decide +kernel
theorem dL_law_219 : decode cL_law 219 = .ok (.invokevirtual 17, 3) := by decide +kernel
theorem dL_law_222 : decode cL_law 222 = .ok (.if_icmp .eq 1093, 3) := by decide +kernel
theorem dL_law_225 : decode cL_law 225 = .ok (.iconst 0, 1) := by decide +kernel
theorem dL_law_226 : decode cL_law 226 = .ok (.ireturn, 1) := by decide +kernel
theorem dL_law_227 : decode cL_law 227 = .ok (.aload_n 1, 1) := by decide +kernel
theorem dL_law_228 : decode cL_law 228 = .ok (.aload_n 0, 1) := by decide +kernel
theorem dL_law_229 : decode cL_law 229 = .ok (.iload_n 3, 1) := by decide +kernel
theorem dL_law_230 : decode cL_law 230 = .ok (.iconst 1, 1) := by decide +kernel
theorem dL_law_231 : decode cL_law 231 = .ok (.iadd, 1) := by decide +kernel
theorem dL_law_232 : decode cL_law 232 = .ok (.iaload, 1) := by decide +kernel
theorem dL_law_233 : decode cL_law 233 = .ok (.aload_n 0, 1) := by decide +kernel
theorem dL_law_234 : decode cL_law 234 = .ok (.iload_n 3, 1) := by decide +kernel
theorem dL_law_235 : decode cL_law 235 = .ok (.iconst 2, 1) := by decide +kernel
theorem dL_law_236 : decode cL_law 236 = .ok (.iadd, 1) := by decide +kernel
theorem dL_law_237 : decode cL_law 237 = .ok (.iaload, 1) := by decide +kernel
theorem dL_law_238 : decode cL_law 238 = .ok (.invokevirtual 18, 3) := by decide +kernel
theorem dL_law_241 : decode cL_law 241 = .ok (.aload_n 2, 1) := by decide +kernel
theorem dL_law_242 : decode cL_law 242 = .ok (.aload_n 0, 1) := by decide +kernel
theorem dL_law_243 : decode cL_law 243 = .ok (.iload_n 3, 1) := by decide +kernel
theorem dL_law_244 : decode cL_law 244 = .ok (.iconst 1, 1) := by decide +kernel
theorem dL_law_245 : decode cL_law 245 = .ok (.iadd, 1) := by decide +kernel
theorem dL_law_246 : decode cL_law 246 = .ok (.iaload, 1) := by decide +kernel
theorem dL_law_247 : decode cL_law 247 = .ok (.aload_n 0, 1) := by decide +kernel
theorem dL_law_248 : decode cL_law 248 = .ok (.iload_n 3, 1) := by decide +kernel
theorem dL_law_249 : decode cL_law 249 = .ok (.iconst 2, 1) := by decide +kernel
theorem dL_law_250 : decode cL_law 250 = .ok (.iadd, 1) := by decide +kernel
theorem dL_law_251 : decode cL_law 251 = .ok (.iaload, 1) := by decide +kernel
theorem dL_law_252 : decode cL_law 252 = .ok (.invokevirtual 22, 3) := by decide +kernel
theorem dL_law_255 : decode cL_law 255 = .ok (.if_icmp .eq 1060, 3) := by decide +kernel
theorem dL_law_258 : decode cL_law 258 = .ok (.iconst 0, 1) := by decide +kernel
theorem dL_law_259 : decode cL_law 259 = .ok (.ireturn, 1) := by decide +kernel
theorem dL_law_260 : decode cL_law 260 = .ok (.aload_n 1, 1) := by decide +kernel
theorem dL_law_261 : decode cL_law 261 = .ok (.aload_n 0, 1) := by decide +kernel
theorem dL_law_262 : decode cL_law 262 = .ok (.iload_n 3, 1) := by decide +kernel
theorem dL_law_263 : decode cL_law 263 = .ok (.iconst 1, 1) := by decide +kernel
theorem dL_law_264 : decode cL_law 264 = .ok (.iadd, 1) := by decide +kernel
theorem dL_law_265 : decode cL_law 265 = .ok (.iaload, 1) := by decide +kernel
theorem dL_law_266 : decode cL_law 266 = .ok (.aload_n 0, 1) := by decide +kernel
theorem dL_law_267 : decode cL_law 267 = .ok (.iload_n 3, 1) := by decide +kernel
theorem dL_law_268 : decode cL_law 268 = .ok (.iconst 2, 1) := by decide +kernel
theorem dL_law_269 : decode cL_law 269 = .ok (.iadd, 1) := by decide +kernel
theorem dL_law_270 : decode cL_law 270 = .ok (.iaload, 1) := by decide +kernel
theorem dL_law_271 : decode cL_law 271 = .ok (.invokevirtual 23, 3) := by decide +kernel
theorem dL_law_274 : decode cL_law 274 = .ok (.aload_n 2, 1) := by decide +kernel
theorem dL_law_275 : decode cL_law 275 = .ok (.aload_n 0, 1) := by decide +kernel
theorem dL_law_276 : decode cL_law 276 = .ok (.iload_n 3, 1) := by decide +kernel
theorem dL_law_277 : decode cL_law 277 = .ok (.iconst 1, 1) := by decide +kernel
theorem dL_law_278 : decode cL_law 278 = .ok (.iadd, 1) := by decide +kernel
theorem dL_law_279 : decode cL_law 279 = .ok (.iaload, 1) := by decide +kernel
theorem dL_law_280 : decode cL_law 280 = .ok (.aload_n 0, 1) := by decide +kernel
theorem dL_law_281 : decode cL_law 281 = .ok (.iload_n 3, 1) := by decide +kernel
theorem dL_law_282 : decode cL_law 282 = .ok (.iconst 2, 1) := by decide +kernel
theorem dL_law_283 : decode cL_law 283 = .ok (.iadd, 1) := by decide +kernel
theorem dL_law_284 : decode cL_law 284 = .ok (.iaload, 1) := by decide +kernel
theorem dL_law_285 : decode cL_law 285 = .ok (.invokevirtual 26, 3) := by decide +kernel
theorem dL_law_288 : decode cL_law 288 = .ok (.if_icmp .eq 1027, 3) := by decide +kernel
theorem dL_law_291 : decode cL_law 291 = .ok (.iconst 0, 1) := by decide +kernel
theorem dL_law_292 : decode cL_law 292 = .ok (.ireturn, 1) := by decide +kernel
theorem dL_law_293 : decode cL_law 293 = .ok (.aload_n 1, 1) := by decide +kernel
theorem dL_law_294 : decode cL_law 294 = .ok (.aload_n 0, 1) := by decide +kernel
theorem dL_law_295 : decode cL_law 295 = .ok (.iload_n 3, 1) := by decide +kernel
theorem dL_law_296 : decode cL_law 296 = .ok (.iconst 1, 1) := by decide +kernel
theorem dL_law_297 : decode cL_law 297 = .ok (.iadd, 1) := by decide +kernel
theorem dL_law_298 : decode cL_law 298 = .ok (.iaload, 1) := by decide +kernel
theorem dL_law_299 : decode cL_law 299 = .ok (.aload_n 0, 1) := by decide +kernel
theorem dL_law_300 : decode cL_law 300 = .ok (.iload_n 3, 1) := by decide +kernel
theorem dL_law_301 : decode cL_law 301 = .ok (.iconst 2, 1) := by decide +kernel
theorem dL_law_302 : decode cL_law 302 = .ok (.iadd, 1) := by decide +kernel
theorem dL_law_303 : decode cL_law 303 = .ok (.iaload, 1) := by decide +kernel
theorem dL_law_304 : decode cL_law 304 = .ok (.invokevirtual 27, 3) := by decide +kernel
theorem dL_law_307 : decode cL_law 307 = .ok (.aload_n 2, 1) := by decide +kernel
theorem dL_law_308 : decode cL_law 308 = .ok (.aload_n 0, 1) := by decide +kernel
theorem dL_law_309 : decode cL_law 309 = .ok (.iload_n 3, 1) := by decide +kernel
theorem dL_law_310 : decode cL_law 310 = .ok (.iconst 1, 1) := by decide +kernel
theorem dL_law_311 : decode cL_law 311 = .ok (.iadd, 1) := by decide +kernel
theorem dL_law_312 : decode cL_law 312 = .ok (.iaload, 1) := by decide +kernel
theorem dL_law_313 : decode cL_law 313 = .ok (.aload_n 0, 1) := by decide +kernel
theorem dL_law_314 : decode cL_law 314 = .ok (.iload_n 3, 1) := by decide +kernel
theorem dL_law_315 : decode cL_law 315 = .ok (.iconst 2, 1) := by decide +kernel
theorem dL_law_316 : decode cL_law 316 = .ok (.iadd, 1) := by decide +kernel
theorem dL_law_317 : decode cL_law 317 = .ok (.iaload, 1) := by decide +kernel
theorem dL_law_318 : decode cL_law 318 = .ok (.invokevirtual 30, 3) := by decide +kernel
theorem dL_law_321 : decode cL_law 321 = .ok (.if_icmp .eq 994, 3) := by decide +kernel
theorem dL_law_324 : decode cL_law 324 = .ok (.iconst 0, 1) := by decide +kernel
theorem dL_law_325 : decode cL_law 325 = .ok (.ireturn, 1) := by decide +kernel
theorem dL_law_326 : decode cL_law 326 = .ok (.aload_n 1, 1) := by decide +kernel
theorem dL_law_327 : decode cL_law 327 = .ok (.aload_n 0, 1) := by decide +kernel
theorem dL_law_328 : decode cL_law 328 = .ok (.iload_n 3, 1) := by decide +kernel
theorem dL_law_329 : decode cL_law 329 = .ok (.iconst 1, 1) := by decide +kernel
theorem dL_law_330 : decode cL_law 330 = .ok (.iadd, 1) := by decide +kernel
theorem dL_law_331 : decode cL_law 331 = .ok (.iaload, 1) := by decide +kernel
theorem dL_law_332 : decode cL_law 332 = .ok (.aload_n 0, 1) := by decide +kernel
theorem dL_law_333 : decode cL_law 333 = .ok (.iload_n 3, 1) := by decide +kernel
theorem dL_law_334 : decode cL_law 334 = .ok (.iconst 2, 1) := by decide +kernel
theorem dL_law_335 : decode cL_law 335 = .ok (.iadd, 1) := by decide +kernel
theorem dL_law_336 : decode cL_law 336 = .ok (.iaload, 1) := by decide +kernel
theorem dL_law_337 : decode cL_law 337 = .ok (.invokevirtual 31, 3) := by decide +kernel
theorem dL_law_340 : decode cL_law 340 = .ok (.aload_n 2, 1) := by decide +kernel
theorem dL_law_341 : decode cL_law 341 = .ok (.aload_n 0, 1) := by decide +kernel
theorem dL_law_342 : decode cL_law 342 = .ok (.iload_n 3, 1) := by decide +kernel
theorem dL_law_343 : decode cL_law 343 = .ok (.iconst 1, 1) := by decide +kernel
theorem dL_law_344 : decode cL_law 344 = .ok (.iadd, 1) := by decide +kernel
theorem dL_law_345 : decode cL_law 345 = .ok (.iaload, 1) := by decide +kernel
theorem dL_law_346 : decode cL_law 346 = .ok (.aload_n 0, 1) := by decide +kernel
theorem dL_law_347 : decode cL_law 347 = .ok (.iload_n 3, 1) := by decide +kernel
theorem dL_law_348 : decode cL_law 348 = .ok (.iconst 2, 1) := by decide +kernel
theorem dL_law_349 : decode cL_law 349 = .ok (.iadd, 1) := by decide +kernel
theorem dL_law_350 : decode cL_law 350 = .ok (.iaload, 1) := by decide +kernel
theorem dL_law_351 : decode cL_law 351 = .ok (.invokevirtual 34, 3) := by decide +kernel
theorem dL_law_354 : decode cL_law 354 = .ok (.if_icmp .eq 961, 3) := by decide +kernel
theorem dL_law_357 : decode cL_law 357 = .ok (.iconst 0, 1) := by decide +kernel
theorem dL_law_358 : decode cL_law 358 = .ok (.ireturn, 1) := by decide +kernel
theorem dL_law_359 : decode cL_law 359 = .ok (.aload_n 1, 1) := by decide +kernel
theorem dL_law_360 : decode cL_law 360 = .ok (.aload_n 0, 1) := by decide +kernel
theorem dL_law_361 : decode cL_law 361 = .ok (.iload_n 3, 1) := by decide +kernel
theorem dL_law_362 : decode cL_law 362 = .ok (.iconst 1, 1) := by decide +kernel
theorem dL_law_363 : decode cL_law 363 = .ok (.iadd, 1) := by decide +kernel
theorem dL_law_364 : decode cL_law 364 = .ok (.iaload, 1) := by decide +kernel
theorem dL_law_365 : decode cL_law 365 = .ok (.aload_n 0, 1) := by decide +kernel
theorem dL_law_366 : decode cL_law 366 = .ok (.iload_n 3, 1) := by decide +kernel
theorem dL_law_367 : decode cL_law 367 = .ok (.iconst 2, 1) := by decide +kernel
theorem dL_law_368 : decode cL_law 368 = .ok (.iadd, 1) := by decide +kernel
theorem dL_law_369 : decode cL_law 369 = .ok (.iaload, 1) := by decide +kernel
theorem dL_law_370 : decode cL_law 370 = .ok (.ifCond .eq 7, 3) := by decide +kernel
theorem dL_law_373 : decode cL_law 373 = .ok (.iconst 1, 1) := by decide +kernel
theorem dL_law_374 : decode cL_law 374 = .ok (.goto 4, 3) := by decide +kernel
theorem dL_law_377 : decode cL_law 377 = .ok (.iconst 0, 1) := by decide +kernel
theorem dL_law_378 : decode cL_law 378 = .ok (.invokevirtual 35, 3) := by decide +kernel
theorem dL_law_381 : decode cL_law 381 = .ok (.aload_n 2, 1) := by decide +kernel
theorem dL_law_382 : decode cL_law 382 = .ok (.aload_n 0, 1) := by decide +kernel
theorem dL_law_383 : decode cL_law 383 = .ok (.iload_n 3, 1) := by decide +kernel
theorem dL_law_384 : decode cL_law 384 = .ok (.iconst 1, 1) := by decide +kernel
theorem dL_law_385 : decode cL_law 385 = .ok (.iadd, 1) := by decide +kernel
theorem dL_law_386 : decode cL_law 386 = .ok (.iaload, 1) := by decide +kernel
theorem dL_law_387 : decode cL_law 387 = .ok (.aload_n 0, 1) := by decide +kernel
theorem dL_law_388 : decode cL_law 388 = .ok (.iload_n 3, 1) := by decide +kernel
theorem dL_law_389 : decode cL_law 389 = .ok (.iconst 2, 1) := by decide +kernel
theorem dL_law_390 : decode cL_law 390 = .ok (.iadd, 1) := by decide +kernel
theorem dL_law_391 : decode cL_law 391 = .ok (.iaload, 1) := by decide +kernel
theorem dL_law_392 : decode cL_law 392 = .ok (.ifCond .eq 7, 3) := by decide +kernel
theorem dL_law_395 : decode cL_law 395 = .ok (.iconst 1, 1) := by decide +kernel
theorem dL_law_396 : decode cL_law 396 = .ok (.goto 4, 3) := by decide +kernel
theorem dL_law_399 : decode cL_law 399 = .ok (.iconst 0, 1) := by decide +kernel
theorem dL_law_400 : decode cL_law 400 = .ok (.invokevirtual 39, 3) := by decide +kernel
theorem dL_law_403 : decode cL_law 403 = .ok (.if_icmp .eq 912, 3) := by decide +kernel
theorem dL_law_406 : decode cL_law 406 = .ok (.iconst 0, 1) := by decide +kernel
theorem dL_law_407 : decode cL_law 407 = .ok (.ireturn, 1) := by decide +kernel
theorem dL_law_408 : decode cL_law 408 = .ok (.aload_n 1, 1) := by decide +kernel
theorem dL_law_409 : decode cL_law 409 = .ok (.aload_n 0, 1) := by decide +kernel
theorem dL_law_410 : decode cL_law 410 = .ok (.iload_n 3, 1) := by decide +kernel
theorem dL_law_411 : decode cL_law 411 = .ok (.iconst 1, 1) := by decide +kernel
theorem dL_law_412 : decode cL_law 412 = .ok (.iadd, 1) := by decide +kernel
theorem dL_law_413 : decode cL_law 413 = .ok (.iaload, 1) := by decide +kernel
theorem dL_law_414 : decode cL_law 414 = .ok (.aload_n 0, 1) := by decide +kernel
theorem dL_law_415 : decode cL_law 415 = .ok (.iload_n 3, 1) := by decide +kernel
theorem dL_law_416 : decode cL_law 416 = .ok (.iconst 2, 1) := by decide +kernel
theorem dL_law_417 : decode cL_law 417 = .ok (.iadd, 1) := by decide +kernel
theorem dL_law_418 : decode cL_law 418 = .ok (.iaload, 1) := by decide +kernel
theorem dL_law_419 : decode cL_law 419 = .ok (.aload_n 0, 1) := by decide +kernel
theorem dL_law_420 : decode cL_law 420 = .ok (.iload_n 3, 1) := by decide +kernel
theorem dL_law_421 : decode cL_law 421 = .ok (.iconst 3, 1) := by decide +kernel
theorem dL_law_422 : decode cL_law 422 = .ok (.iadd, 1) := by decide +kernel
theorem dL_law_423 : decode cL_law 423 = .ok (.iaload, 1) := by decide +kernel
theorem dL_law_424 : decode cL_law 424 = .ok (.invokevirtual 40, 3) := by decide +kernel
theorem dL_law_427 : decode cL_law 427 = .ok (.aload_n 2, 1) := by decide +kernel
theorem dL_law_428 : decode cL_law 428 = .ok (.aload_n 0, 1) := by decide +kernel
theorem dL_law_429 : decode cL_law 429 = .ok (.iload_n 3, 1) := by decide +kernel
theorem dL_law_430 : decode cL_law 430 = .ok (.iconst 1, 1) := by decide +kernel
theorem dL_law_431 : decode cL_law 431 = .ok (.iadd, 1) := by decide +kernel
theorem dL_law_432 : decode cL_law 432 = .ok (.iaload, 1) := by decide +kernel
theorem dL_law_433 : decode cL_law 433 = .ok (.aload_n 0, 1) := by decide +kernel
theorem dL_law_434 : decode cL_law 434 = .ok (.iload_n 3, 1) := by decide +kernel
theorem dL_law_435 : decode cL_law 435 = .ok (.iconst 2, 1) := by decide +kernel
theorem dL_law_436 : decode cL_law 436 = .ok (.iadd, 1) := by decide +kernel
theorem dL_law_437 : decode cL_law 437 = .ok (.iaload, 1) := by decide +kernel
theorem dL_law_438 : decode cL_law 438 = .ok (.aload_n 0, 1) := by decide +kernel
theorem dL_law_439 : decode cL_law 439 = .ok (.iload_n 3, 1) := by decide +kernel
theorem dL_law_440 : decode cL_law 440 = .ok (.iconst 3, 1) := by decide +kernel
theorem dL_law_441 : decode cL_law 441 = .ok (.iadd, 1) := by decide +kernel
theorem dL_law_442 : decode cL_law 442 = .ok (.iaload, 1) := by decide +kernel
theorem dL_law_443 : decode cL_law 443 = .ok (.invokevirtual 43, 3) := by decide +kernel
theorem dL_law_446 : decode cL_law 446 = .ok (.if_icmp .eq 869, 3) := by decide +kernel
theorem dL_law_449 : decode cL_law 449 = .ok (.iconst 0, 1) := by decide +kernel
theorem dL_law_450 : decode cL_law 450 = .ok (.ireturn, 1) := by decide +kernel
theorem dL_law_451 : decode cL_law 451 = .ok (.aload_n 1, 1) := by decide +kernel
theorem dL_law_452 : decode cL_law 452 = .ok (.aload_n 0, 1) := by decide +kernel
theorem dL_law_453 : decode cL_law 453 = .ok (.iload_n 3, 1) := by decide +kernel
theorem dL_law_454 : decode cL_law 454 = .ok (.iconst 1, 1) := by decide +kernel
theorem dL_law_455 : decode cL_law 455 = .ok (.iadd, 1) := by decide +kernel
theorem dL_law_456 : decode cL_law 456 = .ok (.iaload, 1) := by decide +kernel
theorem dL_law_457 : decode cL_law 457 = .ok (.invokevirtual 44, 3) := by decide +kernel
theorem dL_law_460 : decode cL_law 460 = .ok (.aload_n 2, 1) := by decide +kernel
theorem dL_law_461 : decode cL_law 461 = .ok (.aload_n 0, 1) := by decide +kernel
theorem dL_law_462 : decode cL_law 462 = .ok (.iload_n 3, 1) := by decide +kernel
theorem dL_law_463 : decode cL_law 463 = .ok (.iconst 1, 1) := by decide +kernel
theorem dL_law_464 : decode cL_law 464 = .ok (.iadd, 1) := by decide +kernel
theorem dL_law_465 : decode cL_law 465 = .ok (.iaload, 1) := by decide +kernel
theorem dL_law_466 : decode cL_law 466 = .ok (.invokevirtual 48, 3) := by decide +kernel
theorem dL_law_469 : decode cL_law 469 = .ok (.if_icmp .eq 846, 3) := by decide +kernel
theorem dL_law_472 : decode cL_law 472 = .ok (.iconst 0, 1) := by decide +kernel
theorem dL_law_473 : decode cL_law 473 = .ok (.ireturn, 1) := by decide +kernel
theorem dL_law_474 : decode cL_law 474 = .ok (.aload_n 1, 1) := by decide +kernel
theorem dL_law_475 : decode cL_law 475 = .ok (.invokevirtual 49, 3) := by decide +kernel
theorem dL_law_478 : decode cL_law 478 = .ok (.aload_n 2, 1) := by decide +kernel
theorem dL_law_479 : decode cL_law 479 = .ok (.invokevirtual 53, 3) := by decide +kernel
theorem dL_law_482 : decode cL_law 482 = .ok (.if_icmp .eq 833, 3) := by decide +kernel
theorem dL_law_485 : decode cL_law 485 = .ok (.iconst 0, 1) := by decide +kernel
theorem dL_law_486 : decode cL_law 486 = .ok (.ireturn, 1) := by decide +kernel
theorem dL_law_487 : decode cL_law 487 = .ok (.aload_n 1, 1) := by decide +kernel
theorem dL_law_488 : decode cL_law 488 = .ok (.aload_n 0, 1) := by decide +kernel
theorem dL_law_489 : decode cL_law 489 = .ok (.iload_n 3, 1) := by decide +kernel
theorem dL_law_490 : decode cL_law 490 = .ok (.iconst 1, 1) := by decide +kernel
theorem dL_law_491 : decode cL_law 491 = .ok (.iadd, 1) := by decide +kernel
theorem dL_law_492 : decode cL_law 492 = .ok (.iaload, 1) := by decide +kernel
theorem dL_law_493 : decode cL_law 493 = .ok (.invokevirtual 54, 3) := by decide +kernel
theorem dL_law_496 : decode cL_law 496 = .ok (.aload_n 2, 1) := by decide +kernel
theorem dL_law_497 : decode cL_law 497 = .ok (.aload_n 0, 1) := by decide +kernel
theorem dL_law_498 : decode cL_law 498 = .ok (.iload_n 3, 1) := by decide +kernel
theorem dL_law_499 : decode cL_law 499 = .ok (.iconst 1, 1) := by decide +kernel
theorem dL_law_500 : decode cL_law 500 = .ok (.iadd, 1) := by decide +kernel
theorem dL_law_501 : decode cL_law 501 = .ok (.iaload, 1) := by decide +kernel
theorem dL_law_502 : decode cL_law 502 = .ok (.invokevirtual 57, 3) := by decide +kernel
theorem dL_law_505 : decode cL_law 505 = .ok (.if_icmp .eq 810, 3) := by decide +kernel
theorem dL_law_508 : decode cL_law 508 = .ok (.iconst 0, 1) := by decide +kernel
theorem dL_law_509 : decode cL_law 509 = .ok (.ireturn, 1) := by decide +kernel
theorem dL_law_510 : decode cL_law 510 = .ok (.aload_n 1, 1) := by decide +kernel
theorem dL_law_511 : decode cL_law 511 = .ok (.aload_n 0, 1) := by decide +kernel
theorem dL_law_512 : decode cL_law 512 = .ok (.iload_n 3, 1) := by decide +kernel
theorem dL_law_513 : decode cL_law 513 = .ok (.iconst 1, 1) := by decide +kernel
theorem dL_law_514 : decode cL_law 514 = .ok (.iadd, 1) := by decide +kernel
theorem dL_law_515 : decode cL_law 515 = .ok (.iaload, 1) := by decide +kernel
theorem dL_law_516 : decode cL_law 516 = .ok (.invokevirtual 58, 3) := by decide +kernel
theorem dL_law_519 : decode cL_law 519 = .ok (.aload_n 2, 1) := by decide +kernel
theorem dL_law_520 : decode cL_law 520 = .ok (.aload_n 0, 1) := by decide +kernel
theorem dL_law_521 : decode cL_law 521 = .ok (.iload_n 3, 1) := by decide +kernel
theorem dL_law_522 : decode cL_law 522 = .ok (.iconst 1, 1) := by decide +kernel
theorem dL_law_523 : decode cL_law 523 = .ok (.iadd, 1) := by decide +kernel
theorem dL_law_524 : decode cL_law 524 = .ok (.iaload, 1) := by decide +kernel
theorem dL_law_525 : decode cL_law 525 = .ok (.invokevirtual 61, 3) := by decide +kernel
theorem dL_law_528 : decode cL_law 528 = .ok (.if_icmp .eq 787, 3) := by decide +kernel
theorem dL_law_531 : decode cL_law 531 = .ok (.iconst 0, 1) := by decide +kernel
theorem dL_law_532 : decode cL_law 532 = .ok (.ireturn, 1) := by decide +kernel
theorem dL_law_533 : decode cL_law 533 = .ok (.aload_n 1, 1) := by decide +kernel
theorem dL_law_534 : decode cL_law 534 = .ok (.aload_n 0, 1) := by decide +kernel
theorem dL_law_535 : decode cL_law 535 = .ok (.iload_n 3, 1) := by decide +kernel
theorem dL_law_536 : decode cL_law 536 = .ok (.iconst 1, 1) := by decide +kernel
theorem dL_law_537 : decode cL_law 537 = .ok (.iadd, 1) := by decide +kernel
theorem dL_law_538 : decode cL_law 538 = .ok (.iaload, 1) := by decide +kernel
theorem dL_law_539 : decode cL_law 539 = .ok (.aload_n 0, 1) := by decide +kernel
theorem dL_law_540 : decode cL_law 540 = .ok (.iload_n 3, 1) := by decide +kernel
theorem dL_law_541 : decode cL_law 541 = .ok (.iconst 2, 1) := by decide +kernel
theorem dL_law_542 : decode cL_law 542 = .ok (.iadd, 1) := by decide +kernel
theorem dL_law_543 : decode cL_law 543 = .ok (.iaload, 1) := by decide +kernel
theorem dL_law_544 : decode cL_law 544 = .ok (.invokevirtual 62, 3) := by decide +kernel
theorem dL_law_547 : decode cL_law 547 = .ok (.aload_n 2, 1) := by decide +kernel
theorem dL_law_548 : decode cL_law 548 = .ok (.aload_n 0, 1) := by decide +kernel
theorem dL_law_549 : decode cL_law 549 = .ok (.iload_n 3, 1) := by decide +kernel
theorem dL_law_550 : decode cL_law 550 = .ok (.iconst 1, 1) := by decide +kernel
theorem dL_law_551 : decode cL_law 551 = .ok (.iadd, 1) := by decide +kernel
theorem dL_law_552 : decode cL_law 552 = .ok (.iaload, 1) := by decide +kernel
theorem dL_law_553 : decode cL_law 553 = .ok (.aload_n 0, 1) := by decide +kernel
theorem dL_law_554 : decode cL_law 554 = .ok (.iload_n 3, 1) := by decide +kernel
theorem dL_law_555 : decode cL_law 555 = .ok (.iconst 2, 1) := by decide +kernel
theorem dL_law_556 : decode cL_law 556 = .ok (.iadd, 1) := by decide +kernel
theorem dL_law_557 : decode cL_law 557 = .ok (.iaload, 1) := by decide +kernel
theorem dL_law_558 : decode cL_law 558 = .ok (.invokevirtual 65, 3) := by decide +kernel
theorem dL_law_561 : decode cL_law 561 = .ok (.if_icmp .eq 754, 3) := by decide +kernel
theorem dL_law_564 : decode cL_law 564 = .ok (.iconst 0, 1) := by decide +kernel
theorem dL_law_565 : decode cL_law 565 = .ok (.ireturn, 1) := by decide +kernel
theorem dL_law_566 : decode cL_law 566 = .ok (.aload_n 1, 1) := by decide +kernel
theorem dL_law_567 : decode cL_law 567 = .ok (.aload_n 0, 1) := by decide +kernel
theorem dL_law_568 : decode cL_law 568 = .ok (.iload_n 3, 1) := by decide +kernel
theorem dL_law_569 : decode cL_law 569 = .ok (.iconst 1, 1) := by decide +kernel
theorem dL_law_570 : decode cL_law 570 = .ok (.iadd, 1) := by decide +kernel
theorem dL_law_571 : decode cL_law 571 = .ok (.iaload, 1) := by decide +kernel
theorem dL_law_572 : decode cL_law 572 = .ok (.aload_n 0, 1) := by decide +kernel
theorem dL_law_573 : decode cL_law 573 = .ok (.iload_n 3, 1) := by decide +kernel
theorem dL_law_574 : decode cL_law 574 = .ok (.iconst 2, 1) := by decide +kernel
theorem dL_law_575 : decode cL_law 575 = .ok (.iadd, 1) := by decide +kernel
theorem dL_law_576 : decode cL_law 576 = .ok (.iaload, 1) := by decide +kernel
theorem dL_law_577 : decode cL_law 577 = .ok (.aload_n 0, 1) := by decide +kernel
theorem dL_law_578 : decode cL_law 578 = .ok (.iload_n 3, 1) := by decide +kernel
theorem dL_law_579 : decode cL_law 579 = .ok (.iconst 3, 1) := by decide +kernel
theorem dL_law_580 : decode cL_law 580 = .ok (.iadd, 1) := by decide +kernel
theorem dL_law_581 : decode cL_law 581 = .ok (.iaload, 1) := by decide +kernel
theorem dL_law_582 : decode cL_law 582 = .ok (.invokevirtual 66, 3) := by decide +kernel
theorem dL_law_585 : decode cL_law 585 = .ok (.aload_n 2, 1) := by decide +kernel
theorem dL_law_586 : decode cL_law 586 = .ok (.aload_n 0, 1) := by decide +kernel
theorem dL_law_587 : decode cL_law 587 = .ok (.iload_n 3, 1) := by decide +kernel
theorem dL_law_588 : decode cL_law 588 = .ok (.iconst 1, 1) := by decide +kernel
theorem dL_law_589 : decode cL_law 589 = .ok (.iadd, 1) := by decide +kernel
theorem dL_law_590 : decode cL_law 590 = .ok (.iaload, 1) := by decide +kernel
theorem dL_law_591 : decode cL_law 591 = .ok (.aload_n 0, 1) := by decide +kernel
theorem dL_law_592 : decode cL_law 592 = .ok (.iload_n 3, 1) := by decide +kernel
theorem dL_law_593 : decode cL_law 593 = .ok (.iconst 2, 1) := by decide +kernel
theorem dL_law_594 : decode cL_law 594 = .ok (.iadd, 1) := by decide +kernel
theorem dL_law_595 : decode cL_law 595 = .ok (.iaload, 1) := by decide +kernel
theorem dL_law_596 : decode cL_law 596 = .ok (.aload_n 0, 1) := by decide +kernel
theorem dL_law_597 : decode cL_law 597 = .ok (.iload_n 3, 1) := by decide +kernel
theorem dL_law_598 : decode cL_law 598 = .ok (.iconst 3, 1) := by decide +kernel
theorem dL_law_599 : decode cL_law 599 = .ok (.iadd, 1) := by decide +kernel
theorem dL_law_600 : decode cL_law 600 = .ok (.iaload, 1) := by decide +kernel
theorem dL_law_601 : decode cL_law 601 = .ok (.invokevirtual 69, 3) := by decide +kernel
theorem dL_law_604 : decode cL_law 604 = .ok (.if_icmp .eq 711, 3) := by decide +kernel
theorem dL_law_607 : decode cL_law 607 = .ok (.iconst 0, 1) := by decide +kernel
theorem dL_law_608 : decode cL_law 608 = .ok (.ireturn, 1) := by decide +kernel
theorem dL_law_609 : decode cL_law 609 = .ok (.aload_n 1, 1) := by decide +kernel
theorem dL_law_610 : decode cL_law 610 = .ok (.aload_n 0, 1) := by decide +kernel
theorem dL_law_611 : decode cL_law 611 = .ok (.iload_n 3, 1) := by decide +kernel
theorem dL_law_612 : decode cL_law 612 = .ok (.iconst 1, 1) := by decide +kernel
theorem dL_law_613 : decode cL_law 613 = .ok (.iadd, 1) := by decide +kernel
theorem dL_law_614 : decode cL_law 614 = .ok (.iaload, 1) := by decide +kernel
theorem dL_law_615 : decode cL_law 615 = .ok (.aload_n 0, 1) := by decide +kernel
theorem dL_law_616 : decode cL_law 616 = .ok (.iload_n 3, 1) := by decide +kernel
theorem dL_law_617 : decode cL_law 617 = .ok (.iconst 2, 1) := by decide +kernel
theorem dL_law_618 : decode cL_law 618 = .ok (.iadd, 1) := by decide +kernel
theorem dL_law_619 : decode cL_law 619 = .ok (.iaload, 1) := by decide +kernel
theorem dL_law_620 : decode cL_law 620 = .ok (.invokevirtual 70, 3) := by decide +kernel
theorem dL_law_623 : decode cL_law 623 = .ok (.aload_n 2, 1) := by decide +kernel
theorem dL_law_624 : decode cL_law 624 = .ok (.aload_n 0, 1) := by decide +kernel
theorem dL_law_625 : decode cL_law 625 = .ok (.iload_n 3, 1) := by decide +kernel
theorem dL_law_626 : decode cL_law 626 = .ok (.iconst 1, 1) := by decide +kernel
theorem dL_law_627 : decode cL_law 627 = .ok (.iadd, 1) := by decide +kernel
theorem dL_law_628 : decode cL_law 628 = .ok (.iaload, 1) := by decide +kernel
theorem dL_law_629 : decode cL_law 629 = .ok (.aload_n 0, 1) := by decide +kernel
theorem dL_law_630 : decode cL_law 630 = .ok (.iload_n 3, 1) := by decide +kernel
theorem dL_law_631 : decode cL_law 631 = .ok (.iconst 2, 1) := by decide +kernel
theorem dL_law_632 : decode cL_law 632 = .ok (.iadd, 1) := by decide +kernel
theorem dL_law_633 : decode cL_law 633 = .ok (.iaload, 1) := by decide +kernel
theorem dL_law_634 : decode cL_law 634 = .ok (.invokevirtual 73, 3) := by decide +kernel
theorem dL_law_637 : decode cL_law 637 = .ok (.if_icmp .eq 678, 3) := by decide +kernel
theorem dL_law_640 : decode cL_law 640 = .ok (.iconst 0, 1) := by decide +kernel
theorem dL_law_641 : decode cL_law 641 = .ok (.ireturn, 1) := by decide +kernel
theorem dL_law_642 : decode cL_law 642 = .ok (.aload_n 1, 1) := by decide +kernel
theorem dL_law_643 : decode cL_law 643 = .ok (.aload_n 0, 1) := by decide +kernel
theorem dL_law_644 : decode cL_law 644 = .ok (.iload_n 3, 1) := by decide +kernel
theorem dL_law_645 : decode cL_law 645 = .ok (.iconst 1, 1) := by decide +kernel
theorem dL_law_646 : decode cL_law 646 = .ok (.iadd, 1) := by decide +kernel
theorem dL_law_647 : decode cL_law 647 = .ok (.iaload, 1) := by decide +kernel
theorem dL_law_648 : decode cL_law 648 = .ok (.aload_n 0, 1) := by decide +kernel
theorem dL_law_649 : decode cL_law 649 = .ok (.iload_n 3, 1) := by decide +kernel
theorem dL_law_650 : decode cL_law 650 = .ok (.iconst 2, 1) := by decide +kernel
theorem dL_law_651 : decode cL_law 651 = .ok (.iadd, 1) := by decide +kernel
theorem dL_law_652 : decode cL_law 652 = .ok (.iaload, 1) := by decide +kernel
theorem dL_law_653 : decode cL_law 653 = .ok (.aload_n 0, 1) := by decide +kernel
theorem dL_law_654 : decode cL_law 654 = .ok (.iload_n 3, 1) := by decide +kernel
theorem dL_law_655 : decode cL_law 655 = .ok (.iconst 3, 1) := by decide +kernel
theorem dL_law_656 : decode cL_law 656 = .ok (.iadd, 1) := by decide +kernel
theorem dL_law_657 : decode cL_law 657 = .ok (.iaload, 1) := by decide +kernel
theorem dL_law_658 : decode cL_law 658 = .ok (.invokevirtual 74, 3) := by decide +kernel
theorem dL_law_661 : decode cL_law 661 = .ok (.aload_n 2, 1) := by decide +kernel
theorem dL_law_662 : decode cL_law 662 = .ok (.aload_n 0, 1) := by decide +kernel
theorem dL_law_663 : decode cL_law 663 = .ok (.iload_n 3, 1) := by decide +kernel
theorem dL_law_664 : decode cL_law 664 = .ok (.iconst 1, 1) := by decide +kernel
theorem dL_law_665 : decode cL_law 665 = .ok (.iadd, 1) := by decide +kernel
theorem dL_law_666 : decode cL_law 666 = .ok (.iaload, 1) := by decide +kernel
theorem dL_law_667 : decode cL_law 667 = .ok (.aload_n 0, 1) := by decide +kernel
theorem dL_law_668 : decode cL_law 668 = .ok (.iload_n 3, 1) := by decide +kernel
theorem dL_law_669 : decode cL_law 669 = .ok (.iconst 2, 1) := by decide +kernel
theorem dL_law_670 : decode cL_law 670 = .ok (.iadd, 1) := by decide +kernel
theorem dL_law_671 : decode cL_law 671 = .ok (.iaload, 1) := by decide +kernel
theorem dL_law_672 : decode cL_law 672 = .ok (.aload_n 0, 1) := by decide +kernel
theorem dL_law_673 : decode cL_law 673 = .ok (.iload_n 3, 1) := by decide +kernel
theorem dL_law_674 : decode cL_law 674 = .ok (.iconst 3, 1) := by decide +kernel
theorem dL_law_675 : decode cL_law 675 = .ok (.iadd, 1) := by decide +kernel
theorem dL_law_676 : decode cL_law 676 = .ok (.iaload, 1) := by decide +kernel
theorem dL_law_677 : decode cL_law 677 = .ok (.invokevirtual 77, 3) := by decide +kernel
theorem dL_law_680 : decode cL_law 680 = .ok (.if_icmp .eq 635, 3) := by decide +kernel
theorem dL_law_683 : decode cL_law 683 = .ok (.iconst 0, 1) := by decide +kernel
theorem dL_law_684 : decode cL_law 684 = .ok (.ireturn, 1) := by decide +kernel
theorem dL_law_685 : decode cL_law 685 = .ok (.aload_n 1, 1) := by decide +kernel
theorem dL_law_686 : decode cL_law 686 = .ok (.aload_n 0, 1) := by decide +kernel
theorem dL_law_687 : decode cL_law 687 = .ok (.iload_n 3, 1) := by decide +kernel
theorem dL_law_688 : decode cL_law 688 = .ok (.iconst 1, 1) := by decide +kernel
theorem dL_law_689 : decode cL_law 689 = .ok (.iadd, 1) := by decide +kernel
theorem dL_law_690 : decode cL_law 690 = .ok (.iaload, 1) := by decide +kernel
theorem dL_law_691 : decode cL_law 691 = .ok (.invokevirtual 78, 3) := by decide +kernel
theorem dL_law_694 : decode cL_law 694 = .ok (.aload_n 2, 1) := by decide +kernel
theorem dL_law_695 : decode cL_law 695 = .ok (.aload_n 0, 1) := by decide +kernel
theorem dL_law_696 : decode cL_law 696 = .ok (.iload_n 3, 1) := by decide +kernel
theorem dL_law_697 : decode cL_law 697 = .ok (.iconst 1, 1) := by decide +kernel
theorem dL_law_698 : decode cL_law 698 = .ok (.iadd, 1) := by decide +kernel
theorem dL_law_699 : decode cL_law 699 = .ok (.iaload, 1) := by decide +kernel
theorem dL_law_700 : decode cL_law 700 = .ok (.invokevirtual 81, 3) := by decide +kernel
theorem dL_law_703 : decode cL_law 703 = .ok (.if_icmp .eq 612, 3) := by decide +kernel
theorem dL_law_706 : decode cL_law 706 = .ok (.iconst 0, 1) := by decide +kernel
theorem dL_law_707 : decode cL_law 707 = .ok (.ireturn, 1) := by decide +kernel
theorem dL_law_708 : decode cL_law 708 = .ok (.aload_n 1, 1) := by decide +kernel
theorem dL_law_709 : decode cL_law 709 = .ok (.aload_n 0, 1) := by decide +kernel
theorem dL_law_710 : decode cL_law 710 = .ok (.iload_n 3, 1) := by decide +kernel
theorem dL_law_711 : decode cL_law 711 = .ok (.iconst 1, 1) := by decide +kernel
theorem dL_law_712 : decode cL_law 712 = .ok (.iadd, 1) := by decide +kernel
theorem dL_law_713 : decode cL_law 713 = .ok (.iaload, 1) := by decide +kernel
theorem dL_law_714 : decode cL_law 714 = .ok (.aload_n 0, 1) := by decide +kernel
theorem dL_law_715 : decode cL_law 715 = .ok (.iload_n 3, 1) := by decide +kernel
theorem dL_law_716 : decode cL_law 716 = .ok (.iconst 2, 1) := by decide +kernel
theorem dL_law_717 : decode cL_law 717 = .ok (.iadd, 1) := by decide +kernel
theorem dL_law_718 : decode cL_law 718 = .ok (.iaload, 1) := by decide +kernel
theorem dL_law_719 : decode cL_law 719 = .ok (.invokevirtual 82, 3) := by decide +kernel
theorem dL_law_722 : decode cL_law 722 = .ok (.aload_n 2, 1) := by decide +kernel
theorem dL_law_723 : decode cL_law 723 = .ok (.aload_n 0, 1) := by decide +kernel
theorem dL_law_724 : decode cL_law 724 = .ok (.iload_n 3, 1) := by decide +kernel
theorem dL_law_725 : decode cL_law 725 = .ok (.iconst 1, 1) := by decide +kernel
theorem dL_law_726 : decode cL_law 726 = .ok (.iadd, 1) := by decide +kernel
theorem dL_law_727 : decode cL_law 727 = .ok (.iaload, 1) := by decide +kernel
theorem dL_law_728 : decode cL_law 728 = .ok (.aload_n 0, 1) := by decide +kernel
theorem dL_law_729 : decode cL_law 729 = .ok (.iload_n 3, 1) := by decide +kernel
theorem dL_law_730 : decode cL_law 730 = .ok (.iconst 2, 1) := by decide +kernel
theorem dL_law_731 : decode cL_law 731 = .ok (.iadd, 1) := by decide +kernel
theorem dL_law_732 : decode cL_law 732 = .ok (.iaload, 1) := by decide +kernel
theorem dL_law_733 : decode cL_law 733 = .ok (.invokevirtual 85, 3) := by decide +kernel
theorem dL_law_736 : decode cL_law 736 = .ok (.if_icmp .eq 579, 3) := by decide +kernel
theorem dL_law_739 : decode cL_law 739 = .ok (.iconst 0, 1) := by decide +kernel
theorem dL_law_740 : decode cL_law 740 = .ok (.ireturn, 1) := by decide +kernel
theorem dL_law_741 : decode cL_law 741 = .ok (.aload_n 1, 1) := by decide +kernel
theorem dL_law_742 : decode cL_law 742 = .ok (.aload_n 0, 1) := by decide +kernel
theorem dL_law_743 : decode cL_law 743 = .ok (.iload_n 3, 1) := by decide +kernel
theorem dL_law_744 : decode cL_law 744 = .ok (.iconst 1, 1) := by decide +kernel
theorem dL_law_745 : decode cL_law 745 = .ok (.iadd, 1) := by decide +kernel
theorem dL_law_746 : decode cL_law 746 = .ok (.iaload, 1) := by decide +kernel
theorem dL_law_747 : decode cL_law 747 = .ok (.aload_n 0, 1) := by decide +kernel
theorem dL_law_748 : decode cL_law 748 = .ok (.iload_n 3, 1) := by decide +kernel
theorem dL_law_749 : decode cL_law 749 = .ok (.iconst 2, 1) := by decide +kernel
theorem dL_law_750 : decode cL_law 750 = .ok (.iadd, 1) := by decide +kernel
theorem dL_law_751 : decode cL_law 751 = .ok (.iaload, 1) := by decide +kernel
theorem dL_law_752 : decode cL_law 752 = .ok (.aload_n 0, 1) := by decide +kernel
theorem dL_law_753 : decode cL_law 753 = .ok (.iload_n 3, 1) := by decide +kernel
theorem dL_law_754 : decode cL_law 754 = .ok (.iconst 3, 1) := by decide +kernel
theorem dL_law_755 : decode cL_law 755 = .ok (.iadd, 1) := by decide +kernel
theorem dL_law_756 : decode cL_law 756 = .ok (.iaload, 1) := by decide +kernel
theorem dL_law_757 : decode cL_law 757 = .ok (.invokevirtual 86, 3) := by decide +kernel
theorem dL_law_760 : decode cL_law 760 = .ok (.aload_n 2, 1) := by decide +kernel
theorem dL_law_761 : decode cL_law 761 = .ok (.aload_n 0, 1) := by decide +kernel
theorem dL_law_762 : decode cL_law 762 = .ok (.iload_n 3, 1) := by decide +kernel
theorem dL_law_763 : decode cL_law 763 = .ok (.iconst 1, 1) := by decide +kernel
theorem dL_law_764 : decode cL_law 764 = .ok (.iadd, 1) := by decide +kernel
theorem dL_law_765 : decode cL_law 765 = .ok (.iaload, 1) := by decide +kernel
theorem dL_law_766 : decode cL_law 766 = .ok (.aload_n 0, 1) := by decide +kernel
theorem dL_law_767 : decode cL_law 767 = .ok (.iload_n 3, 1) := by decide +kernel
theorem dL_law_768 : decode cL_law 768 = .ok (.iconst 2, 1) := by decide +kernel
theorem dL_law_769 : decode cL_law 769 = .ok (.iadd, 1) := by decide +kernel
theorem dL_law_770 : decode cL_law 770 = .ok (.iaload, 1) := by decide +kernel
theorem dL_law_771 : decode cL_law 771 = .ok (.aload_n 0, 1) := by decide +kernel
theorem dL_law_772 : decode cL_law 772 = .ok (.iload_n 3, 1) := by decide +kernel
theorem dL_law_773 : decode cL_law 773 = .ok (.iconst 3, 1) := by decide +kernel
theorem dL_law_774 : decode cL_law 774 = .ok (.iadd, 1) := by decide +kernel
theorem dL_law_775 : decode cL_law 775 = .ok (.iaload, 1) := by decide +kernel
theorem dL_law_776 : decode cL_law 776 = .ok (.invokevirtual 90, 3) := by decide +kernel
theorem dL_law_779 : decode cL_law 779 = .ok (.lcmp, 1) := by decide +kernel
theorem dL_law_780 : decode cL_law 780 = .ok (.ifCond .eq 535, 3) := by decide +kernel
theorem dL_law_783 : decode cL_law 783 = .ok (.iconst 0, 1) := by decide +kernel
theorem dL_law_784 : decode cL_law 784 = .ok (.ireturn, 1) := by decide +kernel
theorem dL_law_785 : decode cL_law 785 = .ok (.aload_n 1, 1) := by decide +kernel
theorem dL_law_786 : decode cL_law 786 = .ok (.aload_n 0, 1) := by decide +kernel
theorem dL_law_787 : decode cL_law 787 = .ok (.iload_n 3, 1) := by decide +kernel
theorem dL_law_788 : decode cL_law 788 = .ok (.iconst 1, 1) := by decide +kernel
theorem dL_law_789 : decode cL_law 789 = .ok (.iadd, 1) := by decide +kernel
theorem dL_law_790 : decode cL_law 790 = .ok (.iaload, 1) := by decide +kernel
theorem dL_law_791 : decode cL_law 791 = .ok (.aload_n 0, 1) := by decide +kernel
theorem dL_law_792 : decode cL_law 792 = .ok (.iload_n 3, 1) := by decide +kernel
theorem dL_law_793 : decode cL_law 793 = .ok (.iconst 2, 1) := by decide +kernel
theorem dL_law_794 : decode cL_law 794 = .ok (.iadd, 1) := by decide +kernel
theorem dL_law_795 : decode cL_law 795 = .ok (.iaload, 1) := by decide +kernel
theorem dL_law_796 : decode cL_law 796 = .ok (.invokevirtual 91, 3) := by decide +kernel
theorem dL_law_799 : decode cL_law 799 = .ok (.aload_n 2, 1) := by decide +kernel
theorem dL_law_800 : decode cL_law 800 = .ok (.aload_n 0, 1) := by decide +kernel
theorem dL_law_801 : decode cL_law 801 = .ok (.iload_n 3, 1) := by decide +kernel
theorem dL_law_802 : decode cL_law 802 = .ok (.iconst 1, 1) := by decide +kernel
theorem dL_law_803 : decode cL_law 803 = .ok (.iadd, 1) := by decide +kernel
theorem dL_law_804 : decode cL_law 804 = .ok (.iaload, 1) := by decide +kernel
theorem dL_law_805 : decode cL_law 805 = .ok (.aload_n 0, 1) := by decide +kernel
theorem dL_law_806 : decode cL_law 806 = .ok (.iload_n 3, 1) := by decide +kernel
theorem dL_law_807 : decode cL_law 807 = .ok (.iconst 2, 1) := by decide +kernel
theorem dL_law_808 : decode cL_law 808 = .ok (.iadd, 1) := by decide +kernel
theorem dL_law_809 : decode cL_law 809 = .ok (.iaload, 1) := by decide +kernel
theorem dL_law_810 : decode cL_law 810 = .ok (.invokevirtual 95, 3) := by decide +kernel
theorem dL_law_813 : decode cL_law 813 = .ok (.lcmp, 1) := by decide +kernel
theorem dL_law_814 : decode cL_law 814 = .ok (.ifCond .eq 501, 3) := by decide +kernel
theorem dL_law_817 : decode cL_law 817 = .ok (.iconst 0, 1) := by decide +kernel
theorem dL_law_818 : decode cL_law 818 = .ok (.ireturn, 1) := by decide +kernel
theorem dL_law_819 : decode cL_law 819 = .ok (.aload_n 1, 1) := by decide +kernel
theorem dL_law_820 : decode cL_law 820 = .ok (.aload_n 0, 1) := by decide +kernel
theorem dL_law_821 : decode cL_law 821 = .ok (.iload_n 3, 1) := by decide +kernel
theorem dL_law_822 : decode cL_law 822 = .ok (.iconst 1, 1) := by decide +kernel
theorem dL_law_823 : decode cL_law 823 = .ok (.iadd, 1) := by decide +kernel
theorem dL_law_824 : decode cL_law 824 = .ok (.iaload, 1) := by decide +kernel
theorem dL_law_825 : decode cL_law 825 = .ok (.aload_n 0, 1) := by decide +kernel
theorem dL_law_826 : decode cL_law 826 = .ok (.iload_n 3, 1) := by decide +kernel
theorem dL_law_827 : decode cL_law 827 = .ok (.iconst 2, 1) := by decide +kernel
theorem dL_law_828 : decode cL_law 828 = .ok (.iadd, 1) := by decide +kernel
theorem dL_law_829 : decode cL_law 829 = .ok (.iaload, 1) := by decide +kernel
theorem dL_law_830 : decode cL_law 830 = .ok (.invokevirtual 96, 3) := by decide +kernel
theorem dL_law_833 : decode cL_law 833 = .ok (.aload_n 2, 1) := by decide +kernel
theorem dL_law_834 : decode cL_law 834 = .ok (.aload_n 0, 1) := by decide +kernel
theorem dL_law_835 : decode cL_law 835 = .ok (.iload_n 3, 1) := by decide +kernel
theorem dL_law_836 : decode cL_law 836 = .ok (.iconst 1, 1) := by decide +kernel
theorem dL_law_837 : decode cL_law 837 = .ok (.iadd, 1) := by decide +kernel
theorem dL_law_838 : decode cL_law 838 = .ok (.iaload, 1) := by decide +kernel
theorem dL_law_839 : decode cL_law 839 = .ok (.aload_n 0, 1) := by decide +kernel
theorem dL_law_840 : decode cL_law 840 = .ok (.iload_n 3, 1) := by decide +kernel
theorem dL_law_841 : decode cL_law 841 = .ok (.iconst 2, 1) := by decide +kernel
theorem dL_law_842 : decode cL_law 842 = .ok (.iadd, 1) := by decide +kernel
theorem dL_law_843 : decode cL_law 843 = .ok (.iaload, 1) := by decide +kernel
theorem dL_law_844 : decode cL_law 844 = .ok (.invokevirtual 99, 3) := by decide +kernel
theorem dL_law_847 : decode cL_law 847 = .ok (.if_icmp .eq 468, 3) := by decide +kernel
theorem dL_law_850 : decode cL_law 850 = .ok (.iconst 0, 1) := by decide +kernel
theorem dL_law_851 : decode cL_law 851 = .ok (.ireturn, 1) := by decide +kernel
theorem dL_law_852 : decode cL_law 852 = .ok (.aload_n 1, 1) := by decide +kernel
theorem dL_law_853 : decode cL_law 853 = .ok (.aload_n 0, 1) := by decide +kernel
theorem dL_law_854 : decode cL_law 854 = .ok (.iload_n 3, 1) := by decide +kernel
theorem dL_law_855 : decode cL_law 855 = .ok (.iconst 1, 1) := by decide +kernel
theorem dL_law_856 : decode cL_law 856 = .ok (.iadd, 1) := by decide +kernel
theorem dL_law_857 : decode cL_law 857 = .ok (.iaload, 1) := by decide +kernel
theorem dL_law_858 : decode cL_law 858 = .ok (.invokevirtual 100, 3) := by decide +kernel
theorem dL_law_861 : decode cL_law 861 = .ok (.aload_n 2, 1) := by decide +kernel
theorem dL_law_862 : decode cL_law 862 = .ok (.aload_n 0, 1) := by decide +kernel
theorem dL_law_863 : decode cL_law 863 = .ok (.iload_n 3, 1) := by decide +kernel
theorem dL_law_864 : decode cL_law 864 = .ok (.iconst 1, 1) := by decide +kernel
theorem dL_law_865 : decode cL_law 865 = .ok (.iadd, 1) := by decide +kernel
theorem dL_law_866 : decode cL_law 866 = .ok (.iaload, 1) := by decide +kernel
theorem dL_law_867 : decode cL_law 867 = .ok (.invokevirtual 103, 3) := by decide +kernel
theorem dL_law_870 : decode cL_law 870 = .ok (.if_icmp .eq 445, 3) := by decide +kernel
theorem dL_law_873 : decode cL_law 873 = .ok (.iconst 0, 1) := by decide +kernel
theorem dL_law_874 : decode cL_law 874 = .ok (.ireturn, 1) := by decide +kernel
theorem dL_law_875 : decode cL_law 875 = .ok (.aload_n 1, 1) := by decide +kernel
theorem dL_law_876 : decode cL_law 876 = .ok (.aload_n 0, 1) := by decide +kernel
theorem dL_law_877 : decode cL_law 877 = .ok (.iload_n 3, 1) := by decide +kernel
theorem dL_law_878 : decode cL_law 878 = .ok (.iconst 1, 1) := by decide +kernel
theorem dL_law_879 : decode cL_law 879 = .ok (.iadd, 1) := by decide +kernel
theorem dL_law_880 : decode cL_law 880 = .ok (.iaload, 1) := by decide +kernel
theorem dL_law_881 : decode cL_law 881 = .ok (.aload_n 0, 1) := by decide +kernel
theorem dL_law_882 : decode cL_law 882 = .ok (.iload_n 3, 1) := by decide +kernel
theorem dL_law_883 : decode cL_law 883 = .ok (.iconst 2, 1) := by decide +kernel
theorem dL_law_884 : decode cL_law 884 = .ok (.iadd, 1) := by decide +kernel
theorem dL_law_885 : decode cL_law 885 = .ok (.iaload, 1) := by decide +kernel
theorem dL_law_886 : decode cL_law 886 = .ok (.invokevirtual 104, 3) := by decide +kernel
theorem dL_law_889 : decode cL_law 889 = .ok (.aload_n 2, 1) := by decide +kernel
theorem dL_law_890 : decode cL_law 890 = .ok (.aload_n 0, 1) := by decide +kernel
theorem dL_law_891 : decode cL_law 891 = .ok (.iload_n 3, 1) := by decide +kernel
theorem dL_law_892 : decode cL_law 892 = .ok (.iconst 1, 1) := by decide +kernel
theorem dL_law_893 : decode cL_law 893 = .ok (.iadd, 1) := by decide +kernel
theorem dL_law_894 : decode cL_law 894 = .ok (.iaload, 1) := by decide +kernel
theorem dL_law_895 : decode cL_law 895 = .ok (.aload_n 0, 1) := by decide +kernel
theorem dL_law_896 : decode cL_law 896 = .ok (.iload_n 3, 1) := by decide +kernel
theorem dL_law_897 : decode cL_law 897 = .ok (.iconst 2, 1) := by decide +kernel
theorem dL_law_898 : decode cL_law 898 = .ok (.iadd, 1) := by decide +kernel
theorem dL_law_899 : decode cL_law 899 = .ok (.iaload, 1) := by decide +kernel
theorem dL_law_900 : decode cL_law 900 = .ok (.invokevirtual 107, 3) := by decide +kernel
theorem dL_law_903 : decode cL_law 903 = .ok (.if_icmp .eq 412, 3) := by decide +kernel
theorem dL_law_906 : decode cL_law 906 = .ok (.iconst 0, 1) := by decide +kernel
theorem dL_law_907 : decode cL_law 907 = .ok (.ireturn, 1) := by decide +kernel
theorem dL_law_908 : decode cL_law 908 = .ok (.aload_n 1, 1) := by decide +kernel
theorem dL_law_909 : decode cL_law 909 = .ok (.invokevirtual 108, 3) := by decide +kernel
theorem dL_law_912 : decode cL_law 912 = .ok (.aload_n 2, 1) := by decide +kernel
theorem dL_law_913 : decode cL_law 913 = .ok (.invokevirtual 111, 3) := by decide +kernel
theorem dL_law_916 : decode cL_law 916 = .ok (.if_icmp .eq 399, 3) := by decide +kernel
theorem dL_law_919 : decode cL_law 919 = .ok (.iconst 0, 1) := by decide +kernel
theorem dL_law_920 : decode cL_law 920 = .ok (.ireturn, 1) := by decide +kernel
theorem dL_law_921 : decode cL_law 921 = .ok (.aload_n 1, 1) := by decide +kernel
theorem dL_law_922 : decode cL_law 922 = .ok (.aload_n 0, 1) := by decide +kernel
theorem dL_law_923 : decode cL_law 923 = .ok (.iload_n 3, 1) := by decide +kernel
theorem dL_law_924 : decode cL_law 924 = .ok (.iconst 1, 1) := by decide +kernel
theorem dL_law_925 : decode cL_law 925 = .ok (.iadd, 1) := by decide +kernel
theorem dL_law_926 : decode cL_law 926 = .ok (.iaload, 1) := by decide +kernel
theorem dL_law_927 : decode cL_law 927 = .ok (.aload_n 0, 1) := by decide +kernel
theorem dL_law_928 : decode cL_law 928 = .ok (.iload_n 3, 1) := by decide +kernel
theorem dL_law_929 : decode cL_law 929 = .ok (.iconst 2, 1) := by decide +kernel
theorem dL_law_930 : decode cL_law 930 = .ok (.iadd, 1) := by decide +kernel
theorem dL_law_931 : decode cL_law 931 = .ok (.iaload, 1) := by decide +kernel
theorem dL_law_932 : decode cL_law 932 = .ok (.invokevirtual 112, 3) := by decide +kernel
theorem dL_law_935 : decode cL_law 935 = .ok (.aload_n 2, 1) := by decide +kernel
theorem dL_law_936 : decode cL_law 936 = .ok (.aload_n 0, 1) := by decide +kernel
theorem dL_law_937 : decode cL_law 937 = .ok (.iload_n 3, 1) := by decide +kernel
theorem dL_law_938 : decode cL_law 938 = .ok (.iconst 1, 1) := by decide +kernel
theorem dL_law_939 : decode cL_law 939 = .ok (.iadd, 1) := by decide +kernel
theorem dL_law_940 : decode cL_law 940 = .ok (.iaload, 1) := by decide +kernel
theorem dL_law_941 : decode cL_law 941 = .ok (.aload_n 0, 1) := by decide +kernel
theorem dL_law_942 : decode cL_law 942 = .ok (.iload_n 3, 1) := by decide +kernel
theorem dL_law_943 : decode cL_law 943 = .ok (.iconst 2, 1) := by decide +kernel
theorem dL_law_944 : decode cL_law 944 = .ok (.iadd, 1) := by decide +kernel
theorem dL_law_945 : decode cL_law 945 = .ok (.iaload, 1) := by decide +kernel
theorem dL_law_946 : decode cL_law 946 = .ok (.invokevirtual 115, 3) := by decide +kernel
theorem dL_law_949 : decode cL_law 949 = .ok (.if_icmp .eq 366, 3) := by decide +kernel
theorem dL_law_952 : decode cL_law 952 = .ok (.iconst 0, 1) := by decide +kernel
theorem dL_law_953 : decode cL_law 953 = .ok (.ireturn, 1) := by decide +kernel
theorem dL_law_954 : decode cL_law 954 = .ok (.aload_n 1, 1) := by decide +kernel
theorem dL_law_955 : decode cL_law 955 = .ok (.invokevirtual 116, 3) := by decide +kernel
theorem dL_law_958 : decode cL_law 958 = .ok (.aload_n 2, 1) := by decide +kernel
theorem dL_law_959 : decode cL_law 959 = .ok (.invokevirtual 119, 3) := by decide +kernel
theorem dL_law_962 : decode cL_law 962 = .ok (.if_icmp .eq 353, 3) := by decide +kernel
theorem dL_law_965 : decode cL_law 965 = .ok (.iconst 0, 1) := by decide +kernel
theorem dL_law_966 : decode cL_law 966 = .ok (.ireturn, 1) := by decide +kernel
theorem dL_law_967 : decode cL_law 967 = .ok (.aload_n 1, 1) := by decide +kernel
theorem dL_law_968 : decode cL_law 968 = .ok (.invokevirtual 120, 3) := by decide +kernel
theorem dL_law_971 : decode cL_law 971 = .ok (.aload_n 2, 1) := by decide +kernel
theorem dL_law_972 : decode cL_law 972 = .ok (.invokevirtual 123, 3) := by decide +kernel
theorem dL_law_975 : decode cL_law 975 = .ok (.if_icmp .eq 340, 3) := by decide +kernel
theorem dL_law_978 : decode cL_law 978 = .ok (.iconst 0, 1) := by decide +kernel
theorem dL_law_979 : decode cL_law 979 = .ok (.ireturn, 1) := by decide +kernel
theorem dL_law_980 : decode cL_law 980 = .ok (.aload_n 1, 1) := by decide +kernel
theorem dL_law_981 : decode cL_law 981 = .ok (.aload_n 0, 1) := by decide +kernel
theorem dL_law_982 : decode cL_law 982 = .ok (.iload_n 3, 1) := by decide +kernel
theorem dL_law_983 : decode cL_law 983 = .ok (.iconst 1, 1) := by decide +kernel
theorem dL_law_984 : decode cL_law 984 = .ok (.iadd, 1) := by decide +kernel
theorem dL_law_985 : decode cL_law 985 = .ok (.iaload, 1) := by decide +kernel
theorem dL_law_986 : decode cL_law 986 = .ok (.aload_n 0, 1) := by decide +kernel
theorem dL_law_987 : decode cL_law 987 = .ok (.iload_n 3, 1) := by decide +kernel
theorem dL_law_988 : decode cL_law 988 = .ok (.iconst 2, 1) := by decide +kernel
theorem dL_law_989 : decode cL_law 989 = .ok (.iadd, 1) := by decide +kernel
theorem dL_law_990 : decode cL_law 990 = .ok (.iaload, 1) := by decide +kernel
theorem dL_law_991 : decode cL_law 991 = .ok (.aload_n 0, 1) := by decide +kernel
theorem dL_law_992 : decode cL_law 992 = .ok (.iload_n 3, 1) := by decide +kernel
theorem dL_law_993 : decode cL_law 993 = .ok (.iconst 3, 1) := by decide +kernel
theorem dL_law_994 : decode cL_law 994 = .ok (.iadd, 1) := by decide +kernel
theorem dL_law_995 : decode cL_law 995 = .ok (.iaload, 1) := by decide +kernel
theorem dL_law_996 : decode cL_law 996 = .ok (.invokevirtual 124, 3) := by decide +kernel
theorem dL_law_999 : decode cL_law 999 = .ok (.aload_n 2, 1) := by decide +kernel
theorem dL_law_1000 : decode cL_law 1000 = .ok (.aload_n 0, 1) := by decide +kernel
theorem dL_law_1001 : decode cL_law 1001 = .ok (.iload_n 3, 1) := by decide +kernel
theorem dL_law_1002 : decode cL_law 1002 = .ok (.iconst 1, 1) := by decide +kernel
theorem dL_law_1003 : decode cL_law 1003 = .ok (.iadd, 1) := by decide +kernel
theorem dL_law_1004 : decode cL_law 1004 = .ok (.iaload, 1) := by decide +kernel
theorem dL_law_1005 : decode cL_law 1005 = .ok (.aload_n 0, 1) := by decide +kernel
theorem dL_law_1006 : decode cL_law 1006 = .ok (.iload_n 3, 1) := by decide +kernel
theorem dL_law_1007 : decode cL_law 1007 = .ok (.iconst 2, 1) := by decide +kernel
theorem dL_law_1008 : decode cL_law 1008 = .ok (.iadd, 1) := by decide +kernel
theorem dL_law_1009 : decode cL_law 1009 = .ok (.iaload, 1) := by decide +kernel
theorem dL_law_1010 : decode cL_law 1010 = .ok (.aload_n 0, 1) := by decide +kernel
theorem dL_law_1011 : decode cL_law 1011 = .ok (.iload_n 3, 1) := by decide +kernel
theorem dL_law_1012 : decode cL_law 1012 = .ok (.iconst 3, 1) := by decide +kernel
theorem dL_law_1013 : decode cL_law 1013 = .ok (.iadd, 1) := by decide +kernel
theorem dL_law_1014 : decode cL_law 1014 = .ok (.iaload, 1) := by decide +kernel
theorem dL_law_1015 : decode cL_law 1015 = .ok (.invokevirtual 127, 3) := by decide +kernel
theorem dL_law_1018 : decode cL_law 1018 = .ok (.if_icmp .eq 297, 3) := by decide +kernel
theorem dL_law_1021 : decode cL_law 1021 = .ok (.iconst 0, 1) := by decide +kernel
theorem dL_law_1022 : decode cL_law 1022 = .ok (.ireturn, 1) := by decide +kernel
theorem dL_law_1023 : decode cL_law 1023 = .ok (.aload_n 1, 1) := by decide +kernel
theorem dL_law_1024 : decode cL_law 1024 = .ok (.aload_n 0, 1) := by decide +kernel
theorem dL_law_1025 : decode cL_law 1025 = .ok (.iload_n 3, 1) := by decide +kernel
theorem dL_law_1026 : decode cL_law 1026 = .ok (.iconst 1, 1) := by decide +kernel
theorem dL_law_1027 : decode cL_law 1027 = .ok (.iadd, 1) := by decide +kernel
theorem dL_law_1028 : decode cL_law 1028 = .ok (.iaload, 1) := by decide +kernel
theorem dL_law_1029 : decode cL_law 1029 = .ok (.invokevirtual 128, 3) := by decide +kernel
theorem dL_law_1032 : decode cL_law 1032 = .ok (.aload_n 2, 1) := by decide +kernel
theorem dL_law_1033 : decode cL_law 1033 = .ok (.aload_n 0, 1) := by decide +kernel
theorem dL_law_1034 : decode cL_law 1034 = .ok (.iload_n 3, 1) := by decide +kernel
theorem dL_law_1035 : decode cL_law 1035 = .ok (.iconst 1, 1) := by decide +kernel
theorem dL_law_1036 : decode cL_law 1036 = .ok (.iadd, 1) := by decide +kernel
theorem dL_law_1037 : decode cL_law 1037 = .ok (.iaload, 1) := by decide +kernel
theorem dL_law_1038 : decode cL_law 1038 = .ok (.invokevirtual 131, 3) := by decide +kernel
theorem dL_law_1041 : decode cL_law 1041 = .ok (.if_icmp .eq 274, 3) := by decide +kernel
theorem dL_law_1044 : decode cL_law 1044 = .ok (.iconst 0, 1) := by decide +kernel
theorem dL_law_1045 : decode cL_law 1045 = .ok (.ireturn, 1) := by decide +kernel
theorem dL_law_1046 : decode cL_law 1046 = .ok (.aload_n 1, 1) := by decide +kernel
theorem dL_law_1047 : decode cL_law 1047 = .ok (.aload_n 0, 1) := by decide +kernel
theorem dL_law_1048 : decode cL_law 1048 = .ok (.iload_n 3, 1) := by decide +kernel
theorem dL_law_1049 : decode cL_law 1049 = .ok (.iconst 1, 1) := by decide +kernel
theorem dL_law_1050 : decode cL_law 1050 = .ok (.iadd, 1) := by decide +kernel
theorem dL_law_1051 : decode cL_law 1051 = .ok (.iaload, 1) := by decide +kernel
theorem dL_law_1052 : decode cL_law 1052 = .ok (.aload_n 0, 1) := by decide +kernel
theorem dL_law_1053 : decode cL_law 1053 = .ok (.iload_n 3, 1) := by decide +kernel
theorem dL_law_1054 : decode cL_law 1054 = .ok (.iconst 2, 1) := by decide +kernel
theorem dL_law_1055 : decode cL_law 1055 = .ok (.iadd, 1) := by decide +kernel
theorem dL_law_1056 : decode cL_law 1056 = .ok (.iaload, 1) := by decide +kernel
theorem dL_law_1057 : decode cL_law 1057 = .ok (.invokevirtual 132, 3) := by decide +kernel
theorem dL_law_1060 : decode cL_law 1060 = .ok (.aload_n 2, 1) := by decide +kernel
theorem dL_law_1061 : decode cL_law 1061 = .ok (.aload_n 0, 1) := by decide +kernel
theorem dL_law_1062 : decode cL_law 1062 = .ok (.iload_n 3, 1) := by decide +kernel
theorem dL_law_1063 : decode cL_law 1063 = .ok (.iconst 1, 1) := by decide +kernel
theorem dL_law_1064 : decode cL_law 1064 = .ok (.iadd, 1) := by decide +kernel
theorem dL_law_1065 : decode cL_law 1065 = .ok (.iaload, 1) := by decide +kernel
theorem dL_law_1066 : decode cL_law 1066 = .ok (.aload_n 0, 1) := by decide +kernel
theorem dL_law_1067 : decode cL_law 1067 = .ok (.iload_n 3, 1) := by decide +kernel
theorem dL_law_1068 : decode cL_law 1068 = .ok (.iconst 2, 1) := by decide +kernel
theorem dL_law_1069 : decode cL_law 1069 = .ok (.iadd, 1) := by decide +kernel
theorem dL_law_1070 : decode cL_law 1070 = .ok (.iaload, 1) := by decide +kernel
theorem dL_law_1071 : decode cL_law 1071 = .ok (.invokevirtual 135, 3) := by decide +kernel
theorem dL_law_1074 : decode cL_law 1074 = .ok (.if_icmp .eq 241, 3) := by decide +kernel
theorem dL_law_1077 : decode cL_law 1077 = .ok (.iconst 0, 1) := by decide +kernel
theorem dL_law_1078 : decode cL_law 1078 = .ok (.ireturn, 1) := by decide +kernel
theorem dL_law_1079 : decode cL_law 1079 = .ok (.aload_n 1, 1) := by decide +kernel
theorem dL_law_1080 : decode cL_law 1080 = .ok (.aload_n 0, 1) := by decide +kernel
theorem dL_law_1081 : decode cL_law 1081 = .ok (.iload_n 3, 1) := by decide +kernel
theorem dL_law_1082 : decode cL_law 1082 = .ok (.iconst 1, 1) := by decide +kernel
theorem dL_law_1083 : decode cL_law 1083 = .ok (.iadd, 1) := by decide +kernel
theorem dL_law_1084 : decode cL_law 1084 = .ok (.iaload, 1) := by decide +kernel
theorem dL_law_1085 : decode cL_law 1085 = .ok (.invokevirtual 136, 3) := by decide +kernel
theorem dL_law_1088 : decode cL_law 1088 = .ok (.aload_n 2, 1) := by decide +kernel
theorem dL_law_1089 : decode cL_law 1089 = .ok (.aload_n 0, 1) := by decide +kernel
theorem dL_law_1090 : decode cL_law 1090 = .ok (.iload_n 3, 1) := by decide +kernel
theorem dL_law_1091 : decode cL_law 1091 = .ok (.iconst 1, 1) := by decide +kernel
theorem dL_law_1092 : decode cL_law 1092 = .ok (.iadd, 1) := by decide +kernel
theorem dL_law_1093 : decode cL_law 1093 = .ok (.iaload, 1) := by decide +kernel
theorem dL_law_1094 : decode cL_law 1094 = .ok (.invokevirtual 139, 3) := by decide +kernel
theorem dL_law_1097 : decode cL_law 1097 = .ok (.if_icmp .eq 218, 3) := by decide +kernel
theorem dL_law_1100 : decode cL_law 1100 = .ok (.iconst 0, 1) := by decide +kernel
theorem dL_law_1101 : decode cL_law 1101 = .ok (.ireturn, 1) := by decide +kernel
theorem dL_law_1102 : decode cL_law 1102 = .ok (.aload_n 1, 1) := by decide +kernel
theorem dL_law_1103 : decode cL_law 1103 = .ok (.aload_n 0, 1) := by decide +kernel
theorem dL_law_1104 : decode cL_law 1104 = .ok (.iload_n 3, 1) := by decide +kernel
theorem dL_law_1105 : decode cL_law 1105 = .ok (.iconst 1, 1) := by decide +kernel
theorem dL_law_1106 : decode cL_law 1106 = .ok (.iadd, 1) := by decide +kernel
theorem dL_law_1107 : decode cL_law 1107 = .ok (.iaload, 1) := by decide +kernel
theorem dL_law_1108 : decode cL_law 1108 = .ok (.aload_n 0, 1) := by decide +kernel
theorem dL_law_1109 : decode cL_law 1109 = .ok (.iload_n 3, 1) := by decide +kernel
theorem dL_law_1110 : decode cL_law 1110 = .ok (.iconst 2, 1) := by decide +kernel
theorem dL_law_1111 : decode cL_law 1111 = .ok (.iadd, 1) := by decide +kernel
theorem dL_law_1112 : decode cL_law 1112 = .ok (.iaload, 1) := by decide +kernel
theorem dL_law_1113 : decode cL_law 1113 = .ok (.aload_n 0, 1) := by decide +kernel
theorem dL_law_1114 : decode cL_law 1114 = .ok (.iload_n 3, 1) := by decide +kernel
theorem dL_law_1115 : decode cL_law 1115 = .ok (.iconst 3, 1) := by decide +kernel
theorem dL_law_1116 : decode cL_law 1116 = .ok (.iadd, 1) := by decide +kernel
theorem dL_law_1117 : decode cL_law 1117 = .ok (.iaload, 1) := by decide +kernel
theorem dL_law_1118 : decode cL_law 1118 = .ok (.invokevirtual 140, 3) := by decide +kernel
theorem dL_law_1121 : decode cL_law 1121 = .ok (.aload_n 2, 1) := by decide +kernel
theorem dL_law_1122 : decode cL_law 1122 = .ok (.aload_n 0, 1) := by decide +kernel
theorem dL_law_1123 : decode cL_law 1123 = .ok (.iload_n 3, 1) := by decide +kernel
theorem dL_law_1124 : decode cL_law 1124 = .ok (.iconst 1, 1) := by decide +kernel
theorem dL_law_1125 : decode cL_law 1125 = .ok (.iadd, 1) := by decide +kernel
theorem dL_law_1126 : decode cL_law 1126 = .ok (.iaload, 1) := by decide +kernel
theorem dL_law_1127 : decode cL_law 1127 = .ok (.aload_n 0, 1) := by decide +kernel
theorem dL_law_1128 : decode cL_law 1128 = .ok (.iload_n 3, 1) := by decide +kernel
theorem dL_law_1129 : decode cL_law 1129 = .ok (.iconst 2, 1) := by decide +kernel
theorem dL_law_1130 : decode cL_law 1130 = .ok (.iadd, 1) := by decide +kernel
theorem dL_law_1131 : decode cL_law 1131 = .ok (.iaload, 1) := by decide +kernel
theorem dL_law_1132 : decode cL_law 1132 = .ok (.aload_n 0, 1) := by decide +kernel
theorem dL_law_1133 : decode cL_law 1133 = .ok (.iload_n 3, 1) := by decide +kernel
theorem dL_law_1134 : decode cL_law 1134 = .ok (.iconst 3, 1) := by decide +kernel
theorem dL_law_1135 : decode cL_law 1135 = .ok (.iadd, 1) := by decide +kernel
theorem dL_law_1136 : decode cL_law 1136 = .ok (.iaload, 1) := by decide +kernel
theorem dL_law_1137 : decode cL_law 1137 = .ok (.invokevirtual 143, 3) := by decide +kernel
theorem dL_law_1140 : decode cL_law 1140 = .ok (.if_icmp .eq 175, 3) := by decide +kernel
theorem dL_law_1143 : decode cL_law 1143 = .ok (.iconst 0, 1) := by decide +kernel
theorem dL_law_1144 : decode cL_law 1144 = .ok (.ireturn, 1) := by decide +kernel
theorem dL_law_1145 : decode cL_law 1145 = .ok (.aload_n 1, 1) := by decide +kernel
theorem dL_law_1146 : decode cL_law 1146 = .ok (.aload_n 0, 1) := by decide +kernel
theorem dL_law_1147 : decode cL_law 1147 = .ok (.iload_n 3, 1) := by decide +kernel
theorem dL_law_1148 : decode cL_law 1148 = .ok (.iconst 1, 1) := by decide +kernel
theorem dL_law_1149 : decode cL_law 1149 = .ok (.iadd, 1) := by decide +kernel
theorem dL_law_1150 : decode cL_law 1150 = .ok (.iaload, 1) := by decide +kernel
theorem dL_law_1151 : decode cL_law 1151 = .ok (.aload_n 0, 1) := by decide +kernel
theorem dL_law_1152 : decode cL_law 1152 = .ok (.iload_n 3, 1) := by decide +kernel
theorem dL_law_1153 : decode cL_law 1153 = .ok (.iconst 2, 1) := by decide +kernel
theorem dL_law_1154 : decode cL_law 1154 = .ok (.iadd, 1) := by decide +kernel
theorem dL_law_1155 : decode cL_law 1155 = .ok (.iaload, 1) := by decide +kernel
theorem dL_law_1156 : decode cL_law 1156 = .ok (.aload_n 0, 1) := by decide +kernel
theorem dL_law_1157 : decode cL_law 1157 = .ok (.iload_n 3, 1) := by decide +kernel
theorem dL_law_1158 : decode cL_law 1158 = .ok (.iconst 3, 1) := by decide +kernel
theorem dL_law_1159 : decode cL_law 1159 = .ok (.iadd, 1) := by decide +kernel
theorem dL_law_1160 : decode cL_law 1160 = .ok (.iaload, 1) := by decide +kernel
theorem dL_law_1161 : decode cL_law 1161 = .ok (.i2l, 1) := by decide +kernel
theorem dL_law_1162 : decode cL_law 1162 = .ok (.bipush 32, 2) := by decide +kernel
theorem dL_law_1164 : decode cL_law 1164 = .ok (.lshl, 1) := by decide +kernel
theorem dL_law_1165 : decode cL_law 1165 = .ok (.aload_n 0, 1) := by decide +kernel
theorem dL_law_1166 : decode cL_law 1166 = .ok (.iload_n 3, 1) := by decide +kernel
theorem dL_law_1167 : decode cL_law 1167 = .ok (.iconst 4, 1) := by decide +kernel
theorem dL_law_1168 : decode cL_law 1168 = .ok (.iadd, 1) := by decide +kernel
theorem dL_law_1169 : decode cL_law 1169 = .ok (.iaload, 1) := by decide +kernel
theorem dL_law_1170 : decode cL_law 1170 = .ok (.i2l, 1) := by decide +kernel
theorem dL_law_1171 : decode cL_law 1171 = .ok (.ldc2_w 144, 3) := by decide +kernel
theorem dL_law_1174 : decode cL_law 1174 = .ok (.land, 1) := by decide +kernel
theorem dL_law_1175 : decode cL_law 1175 = .ok (.lor, 1) := by decide +kernel
theorem dL_law_1176 : decode cL_law 1176 = .ok (.invokevirtual 146, 3) := by decide +kernel
theorem dL_law_1179 : decode cL_law 1179 = .ok (.aload_n 2, 1) := by decide +kernel
theorem dL_law_1180 : decode cL_law 1180 = .ok (.aload_n 0, 1) := by decide +kernel
theorem dL_law_1181 : decode cL_law 1181 = .ok (.iload_n 3, 1) := by decide +kernel
theorem dL_law_1182 : decode cL_law 1182 = .ok (.iconst 1, 1) := by decide +kernel
theorem dL_law_1183 : decode cL_law 1183 = .ok (.iadd, 1) := by decide +kernel
theorem dL_law_1184 : decode cL_law 1184 = .ok (.iaload, 1) := by decide +kernel
theorem dL_law_1185 : decode cL_law 1185 = .ok (.aload_n 0, 1) := by decide +kernel
theorem dL_law_1186 : decode cL_law 1186 = .ok (.iload_n 3, 1) := by decide +kernel
theorem dL_law_1187 : decode cL_law 1187 = .ok (.iconst 2, 1) := by decide +kernel
theorem dL_law_1188 : decode cL_law 1188 = .ok (.iadd, 1) := by decide +kernel
theorem dL_law_1189 : decode cL_law 1189 = .ok (.iaload, 1) := by decide +kernel
theorem dL_law_1190 : decode cL_law 1190 = .ok (.aload_n 0, 1) := by decide +kernel
theorem dL_law_1191 : decode cL_law 1191 = .ok (.iload_n 3, 1) := by decide +kernel
theorem dL_law_1192 : decode cL_law 1192 = .ok (.iconst 3, 1) := by decide +kernel
theorem dL_law_1193 : decode cL_law 1193 = .ok (.iadd, 1) := by decide +kernel
theorem dL_law_1194 : decode cL_law 1194 = .ok (.iaload, 1) := by decide +kernel
theorem dL_law_1195 : decode cL_law 1195 = .ok (.i2l, 1) := by decide +kernel
theorem dL_law_1196 : decode cL_law 1196 = .ok (.bipush 32, 2) := by decide +kernel
theorem dL_law_1198 : decode cL_law 1198 = .ok (.lshl, 1) := by decide +kernel
theorem dL_law_1199 : decode cL_law 1199 = .ok (.aload_n 0, 1) := by decide +kernel
theorem dL_law_1200 : decode cL_law 1200 = .ok (.iload_n 3, 1) := by decide +kernel
theorem dL_law_1201 : decode cL_law 1201 = .ok (.iconst 4, 1) := by decide +kernel
theorem dL_law_1202 : decode cL_law 1202 = .ok (.iadd, 1) := by decide +kernel
theorem dL_law_1203 : decode cL_law 1203 = .ok (.iaload, 1) := by decide +kernel
theorem dL_law_1204 : decode cL_law 1204 = .ok (.i2l, 1) := by decide +kernel
theorem dL_law_1205 : decode cL_law 1205 = .ok (.ldc2_w 144, 3) := by decide +kernel
theorem dL_law_1208 : decode cL_law 1208 = .ok (.land, 1) := by decide +kernel
theorem dL_law_1209 : decode cL_law 1209 = .ok (.lor, 1) := by decide +kernel
theorem dL_law_1210 : decode cL_law 1210 = .ok (.invokevirtual 150, 3) := by decide +kernel
theorem dL_law_1213 : decode cL_law 1213 = .ok (.if_icmp .eq 102, 3) := by decide +kernel
theorem dL_law_1216 : decode cL_law 1216 = .ok (.iconst 0, 1) := by decide +kernel
theorem dL_law_1217 : decode cL_law 1217 = .ok (.ireturn, 1) := by decide +kernel
theorem dL_law_1218 : decode cL_law 1218 = .ok (.aload_n 1, 1) := by decide +kernel
theorem dL_law_1219 : decode cL_law 1219 = .ok (.aload_n 0, 1) := by decide +kernel
theorem dL_law_1220 : decode cL_law 1220 = .ok (.iload_n 3, 1) := by decide +kernel
theorem dL_law_1221 : decode cL_law 1221 = .ok (.iconst 1, 1) := by decide +kernel
theorem dL_law_1222 : decode cL_law 1222 = .ok (.iadd, 1) := by decide +kernel
theorem dL_law_1223 : decode cL_law 1223 = .ok (.iaload, 1) := by decide +kernel
theorem dL_law_1224 : decode cL_law 1224 = .ok (.aload_n 0, 1) := by decide +kernel
theorem dL_law_1225 : decode cL_law 1225 = .ok (.iload_n 3, 1) := by decide +kernel
theorem dL_law_1226 : decode cL_law 1226 = .ok (.iconst 2, 1) := by decide +kernel
theorem dL_law_1227 : decode cL_law 1227 = .ok (.iadd, 1) := by decide +kernel
theorem dL_law_1228 : decode cL_law 1228 = .ok (.iaload, 1) := by decide +kernel
theorem dL_law_1229 : decode cL_law 1229 = .ok (.invokevirtual 151, 3) := by decide +kernel
theorem dL_law_1232 : decode cL_law 1232 = .ok (.aload_n 2, 1) := by decide +kernel
theorem dL_law_1233 : decode cL_law 1233 = .ok (.aload_n 0, 1) := by decide +kernel
theorem dL_law_1234 : decode cL_law 1234 = .ok (.iload_n 3, 1) := by decide +kernel
theorem dL_law_1235 : decode cL_law 1235 = .ok (.iconst 1, 1) := by decide +kernel
theorem dL_law_1236 : decode cL_law 1236 = .ok (.iadd, 1) := by decide +kernel
theorem dL_law_1237 : decode cL_law 1237 = .ok (.iaload, 1) := by decide +kernel
theorem dL_law_1238 : decode cL_law 1238 = .ok (.aload_n 0, 1) := by decide +kernel
theorem dL_law_1239 : decode cL_law 1239 = .ok (.iload_n 3, 1) := by decide +kernel
theorem dL_law_1240 : decode cL_law 1240 = .ok (.iconst 2, 1) := by decide +kernel
theorem dL_law_1241 : decode cL_law 1241 = .ok (.iadd, 1) := by decide +kernel
theorem dL_law_1242 : decode cL_law 1242 = .ok (.iaload, 1) := by decide +kernel
theorem dL_law_1243 : decode cL_law 1243 = .ok (.invokevirtual 154, 3) := by decide +kernel
theorem dL_law_1246 : decode cL_law 1246 = .ok (.lcmp, 1) := by decide +kernel
theorem dL_law_1247 : decode cL_law 1247 = .ok (.ifCond .eq 68, 3) := by decide +kernel
theorem dL_law_1250 : decode cL_law 1250 = .ok (.iconst 0, 1) := by decide +kernel
theorem dL_law_1251 : decode cL_law 1251 = .ok (.ireturn, 1) := by decide +kernel
theorem dL_law_1252 : decode cL_law 1252 = .ok (.aload_n 1, 1) := by decide +kernel
theorem dL_law_1253 : decode cL_law 1253 = .ok (.aload_n 0, 1) := by decide +kernel
theorem dL_law_1254 : decode cL_law 1254 = .ok (.iload_n 3, 1) := by decide +kernel
theorem dL_law_1255 : decode cL_law 1255 = .ok (.iconst 1, 1) := by decide +kernel
theorem dL_law_1256 : decode cL_law 1256 = .ok (.iadd, 1) := by decide +kernel
theorem dL_law_1257 : decode cL_law 1257 = .ok (.iaload, 1) := by decide +kernel
theorem dL_law_1258 : decode cL_law 1258 = .ok (.aload_n 0, 1) := by decide +kernel
theorem dL_law_1259 : decode cL_law 1259 = .ok (.iload_n 3, 1) := by decide +kernel
theorem dL_law_1260 : decode cL_law 1260 = .ok (.iconst 2, 1) := by decide +kernel
theorem dL_law_1261 : decode cL_law 1261 = .ok (.iadd, 1) := by decide +kernel
theorem dL_law_1262 : decode cL_law 1262 = .ok (.iaload, 1) := by decide +kernel
theorem dL_law_1263 : decode cL_law 1263 = .ok (.aload_n 0, 1) := by decide +kernel
theorem dL_law_1264 : decode cL_law 1264 = .ok (.iload_n 3, 1) := by decide +kernel
theorem dL_law_1265 : decode cL_law 1265 = .ok (.iconst 3, 1) := by decide +kernel
theorem dL_law_1266 : decode cL_law 1266 = .ok (.iadd, 1) := by decide +kernel
theorem dL_law_1267 : decode cL_law 1267 = .ok (.iaload, 1) := by decide +kernel
theorem dL_law_1268 : decode cL_law 1268 = .ok (.aload_n 0, 1) := by decide +kernel
theorem dL_law_1269 : decode cL_law 1269 = .ok (.iload_n 3, 1) := by decide +kernel
theorem dL_law_1270 : decode cL_law 1270 = .ok (.iconst 4, 1) := by decide +kernel
theorem dL_law_1271 : decode cL_law 1271 = .ok (.iadd, 1) := by decide +kernel
theorem dL_law_1272 : decode cL_law 1272 = .ok (.iaload, 1) := by decide +kernel
theorem dL_law_1273 : decode cL_law 1273 = .ok (.aload_n 0, 1) := by decide +kernel
theorem dL_law_1274 : decode cL_law 1274 = .ok (.iload_n 3, 1) := by decide +kernel
theorem dL_law_1275 : decode cL_law 1275 = .ok (.iconst 5, 1) := by decide +kernel
theorem dL_law_1276 : decode cL_law 1276 = .ok (.iadd, 1) := by decide +kernel
theorem dL_law_1277 : decode cL_law 1277 = .ok (.iaload, 1) := by decide +kernel
theorem dL_law_1278 : decode cL_law 1278 = .ok (.invokevirtual 155, 3) := by decide +kernel
theorem dL_law_1281 : decode cL_law 1281 = .ok (.aload_n 2, 1) := by decide +kernel
theorem dL_law_1282 : decode cL_law 1282 = .ok (.aload_n 0, 1) := by decide +kernel
theorem dL_law_1283 : decode cL_law 1283 = .ok (.iload_n 3, 1) := by decide +kernel
theorem dL_law_1284 : decode cL_law 1284 = .ok (.iconst 1, 1) := by decide +kernel
theorem dL_law_1285 : decode cL_law 1285 = .ok (.iadd, 1) := by decide +kernel
theorem dL_law_1286 : decode cL_law 1286 = .ok (.iaload, 1) := by decide +kernel
theorem dL_law_1287 : decode cL_law 1287 = .ok (.aload_n 0, 1) := by decide +kernel
theorem dL_law_1288 : decode cL_law 1288 = .ok (.iload_n 3, 1) := by decide +kernel
theorem dL_law_1289 : decode cL_law 1289 = .ok (.iconst 2, 1) := by decide +kernel
theorem dL_law_1290 : decode cL_law 1290 = .ok (.iadd, 1) := by decide +kernel
theorem dL_law_1291 : decode cL_law 1291 = .ok (.iaload, 1) := by decide +kernel
theorem dL_law_1292 : decode cL_law 1292 = .ok (.aload_n 0, 1) := by decide +kernel
theorem dL_law_1293 : decode cL_law 1293 = .ok (.iload_n 3, 1) := by decide +kernel
theorem dL_law_1294 : decode cL_law 1294 = .ok (.iconst 3, 1) := by decide +kernel
theorem dL_law_1295 : decode cL_law 1295 = .ok (.iadd, 1) := by decide +kernel
theorem dL_law_1296 : decode cL_law 1296 = .ok (.iaload, 1) := by decide +kernel
theorem dL_law_1297 : decode cL_law 1297 = .ok (.aload_n 0, 1) := by decide +kernel
theorem dL_law_1298 : decode cL_law 1298 = .ok (.iload_n 3, 1) := by decide +kernel
theorem dL_law_1299 : decode cL_law 1299 = .ok (.iconst 4, 1) := by decide +kernel
theorem dL_law_1300 : decode cL_law 1300 = .ok (.iadd, 1) := by decide +kernel
theorem dL_law_1301 : decode cL_law 1301 = .ok (.iaload, 1) := by decide +kernel
theorem dL_law_1302 : decode cL_law 1302 = .ok (.aload_n 0, 1) := by decide +kernel
theorem dL_law_1303 : decode cL_law 1303 = .ok (.iload_n 3, 1) := by decide +kernel
theorem dL_law_1304 : decode cL_law 1304 = .ok (.iconst 5, 1) := by decide +kernel
theorem dL_law_1305 : decode cL_law 1305 = .ok (.iadd, 1) := by decide +kernel
theorem dL_law_1306 : decode cL_law 1306 = .ok (.iaload, 1) := by decide +kernel
theorem dL_law_1307 : decode cL_law 1307 = .ok (.invokevirtual 159, 3) := by decide +kernel
theorem dL_law_1310 : decode cL_law 1310 = .ok (.if_icmp .eq 5, 3) := by decide +kernel
theorem dL_law_1313 : decode cL_law 1313 = .ok (.iconst 0, 1) := by decide +kernel
theorem dL_law_1314 : decode cL_law 1314 = .ok (.ireturn, 1) := by decide +kernel
theorem dL_law_1315 : decode cL_law 1315 = .ok (.iinc 3 6, 3) := by decide +kernel
theorem dL_law_1318 : decode cL_law 1318 = .ok (.goto (-1300), 3) := by decide +kernel
theorem dL_law_1321 : decode cL_law 1321 = .ok (.iconst 1, 1) := by decide +kernel
theorem dL_law_1322 : decode cL_law 1322 = .ok (.ireturn, 1) := by decide +kernel
theorem dJ11_isValidCodePoint_9a6ad_0 : decode cJ11_isValidCodePoint_9a6ad 0 = .ok (.iload_n 0, 1) := by decide +kernel
theorem dJ11_isValidCodePoint_9a6ad_1 : decode cJ11_isValidCodePoint_9a6ad 1 = .ok (.bipush 16, 2) := by decide +kernel
theorem dJ11_isValidCodePoint_9a6ad_3 : decode cJ11_isValidCodePoint_9a6ad 3 = .ok (.iushr, 1) := by decide +kernel
theorem dJ11_isValidCodePoint_9a6ad_4 : decode cJ11_isValidCodePoint_9a6ad 4 = .ok (.istore_n 1, 1) := by decide +kernel
theorem dJ11_isValidCodePoint_9a6ad_5 : decode cJ11_isValidCodePoint_9a6ad 5 = .ok (.iload_n 1, 1) := by decide +kernel
theorem dJ11_isValidCodePoint_9a6ad_6 : decode cJ11_isValidCodePoint_9a6ad 6 = .ok (.bipush 17, 2) := by decide +kernel
theorem dJ11_isValidCodePoint_9a6ad_8 : decode cJ11_isValidCodePoint_9a6ad 8 = .ok (.if_icmp .ge 7, 3) := by decide +kernel
theorem dJ11_isValidCodePoint_9a6ad_11 : decode cJ11_isValidCodePoint_9a6ad 11 = .ok (.iconst 1, 1) := by decide +kernel
theorem dJ11_isValidCodePoint_9a6ad_12 : decode cJ11_isValidCodePoint_9a6ad 12 = .ok (.goto 4, 3) := by decide +kernel
theorem dJ11_isValidCodePoint_9a6ad_15 : decode cJ11_isValidCodePoint_9a6ad 15 = .ok (.iconst 0, 1) := by decide +kernel
theorem dJ11_isValidCodePoint_9a6ad_16 : decode cJ11_isValidCodePoint_9a6ad 16 = .ok (.ireturn, 1) := by decide +kernel
theorem dJ11_highSurrogate_5068e_0 : decode cJ11_highSurrogate_5068e 0 = .ok (.iload_n 0, 1) := by decide +kernel
theorem dJ11_highSurrogate_5068e_1 : decode cJ11_highSurrogate_5068e 1 = .ok (.bipush 10, 2) := by decide +kernel
theorem dJ11_highSurrogate_5068e_3 : decode cJ11_highSurrogate_5068e 3 = .ok (.iushr, 1) := by decide +kernel
theorem dJ11_highSurrogate_5068e_4 : decode cJ11_highSurrogate_5068e 4 = .ok (.ldc 110, 2) := by decide +kernel
theorem dJ11_highSurrogate_5068e_6 : decode cJ11_highSurrogate_5068e 6 = .ok (.iadd, 1) := by decide +kernel
theorem dJ11_highSurrogate_5068e_7 : decode cJ11_highSurrogate_5068e 7 = .ok (.i2c, 1) := by decide +kernel
theorem dJ11_highSurrogate_5068e_8 : decode cJ11_highSurrogate_5068e 8 = .ok (.ireturn, 1) := by decide +kernel
theorem dJ11_lowSurrogate_5068e_0 : decode cJ11_lowSurrogate_5068e 0 = .ok (.iload_n 0, 1) := by decide +kernel
theorem dJ11_lowSurrogate_5068e_1 : decode cJ11_lowSurrogate_5068e 1 = .ok (.sipush 1023, 3) := by decide +kernel
theorem dJ11_lowSurrogate_5068e_4 : decode cJ11_lowSurrogate_5068e 4 = .ok (.iand, 1) := by decide +kernel
theorem dJ11_lowSurrogate_5068e_5 : decode cJ11_lowSurrogate_5068e 5 = .ok (.ldc 76, 2) := by decide +kernel
theorem dJ11_lowSurrogate_5068e_7 : decode cJ11_lowSurrogate_5068e 7 = .ok (.iadd, 1) := by decide +kernel
theorem dJ11_lowSurrogate_5068e_8 : decode cJ11_lowSurrogate_5068e 8 = .ok (.i2c, 1) := by decide +kernel
theorem dJ11_lowSurrogate_5068e_9 : decode cJ11_lowSurrogate_5068e 9 = .ok (.ireturn, 1) := by decide +kernel
theorem dJ9_max_7cf53_0 : decode cJ9_max_7cf53 0 = .ok (.iload_n 0, 1) := by decide +kernel
theorem dJ9_max_7cf53_1 : decode cJ9_max_7cf53 1 = .ok (.iload_n 1, 1) := by decide +kernel
theorem dJ9_max_7cf53_2 : decode cJ9_max_7cf53 2 = .ok (.if_icmp .lt 7, 3) := by decide +kernel
theorem dJ9_max_7cf53_5 : decode cJ9_max_7cf53 5 = .ok (.iload_n 0, 1) := by decide +kernel
theorem dJ9_max_7cf53_6 : decode cJ9_max_7cf53 6 = .ok (.goto 4, 3) := by decide +kernel
theorem dJ9_max_7cf53_9 : decode cJ9_max_7cf53 9 = .ok (.iload_n 1, 1) := by decide +kernel
theorem dJ9_max_7cf53_10 : decode cJ9_max_7cf53 10 = .ok (.ireturn, 1) := by decide +kernel
theorem dJ9_min_7cf53_0 : decode cJ9_min_7cf53 0 = .ok (.iload_n 0, 1) := by decide +kernel
theorem dJ9_min_7cf53_1 : decode cJ9_min_7cf53 1 = .ok (.iload_n 1, 1) := by decide +kernel
theorem dJ9_min_7cf53_2 : decode cJ9_min_7cf53 2 = .ok (.if_icmp .gt 7, 3) := by decide +kernel
theorem dJ9_min_7cf53_5 : decode cJ9_min_7cf53 5 = .ok (.iload_n 0, 1) := by decide +kernel
theorem dJ9_min_7cf53_6 : decode cJ9_min_7cf53 6 = .ok (.goto 4, 3) := by decide +kernel
theorem dJ9_min_7cf53_9 : decode cJ9_min_7cf53 9 = .ok (.iload_n 1, 1) := by decide +kernel
theorem dJ9_min_7cf53_10 : decode cJ9_min_7cf53 10 = .ok (.ireturn, 1) := by decide +kernel
theorem dJ0_length_8abf5_0 : decode cJ0_length_8abf5 0 = .ok (.aload_n 0, 1) := by decide +kernel
theorem dJ0_length_8abf5_1 : decode cJ0_length_8abf5 1 = .ok (.getfield 9, 3) := by decide +kernel
theorem dJ0_length_8abf5_4 : decode cJ0_length_8abf5 4 = .ok (.arraylength, 1) := by decide +kernel
theorem dJ0_length_8abf5_5 : decode cJ0_length_8abf5 5 = .ok (.aload_n 0, 1) := by decide +kernel
theorem dJ0_length_8abf5_6 : decode cJ0_length_8abf5 6 = .ok (.invokevirtual 335, 3) := by decide +kernel
theorem dJ0_length_8abf5_9 : decode cJ0_length_8abf5 9 = .ok (.ishr, 1) := by decide +kernel
theorem dJ0_length_8abf5_10 : decode cJ0_length_8abf5 10 = .ok (.ireturn, 1) := by decide +kernel
theorem dJ0_charAt_5068e_0 : decode cJ0_charAt_5068e 0 = .ok (.aload_n 0, 1) := by decide +kernel
theorem dJ0_charAt_5068e_1 : decode cJ0_charAt_5068e 1 = .ok (.invokevirtual 492, 3) := by decide +kernel
theorem dJ0_charAt_5068e_4 : decode cJ0_charAt_5068e 4 = .ok (.ifCond .eq 12, 3) := by decide +kernel
theorem dJ0_charAt_5068e_7 : decode cJ0_charAt_5068e 7 = .ok (.aload_n 0, 1) := by decide +kernel
theorem dJ0_charAt_5068e_8 : decode cJ0_charAt_5068e 8 = .ok (.getfield 9, 3) := by decide +kernel
theorem dJ0_charAt_5068e_11 : decode cJ0_charAt_5068e 11 = .ok (.iload_n 1, 1) := by decide +kernel
theorem dJ0_charAt_5068e_12 : decode cJ0_charAt_5068e 12 = .ok (.invokestatic 495, 3) := by decide +kernel
theorem dJ0_charAt_5068e_15 : decode cJ0_charAt_5068e 15 = .ok (.ireturn, 1) := by decide +kernel
theorem dJ0_charAt_5068e_16 : decode cJ0_charAt_5068e 16 = .ok (.aload_n 0, 1) := by decide +kernel
theorem dJ0_charAt_5068e_17 : decode cJ0_charAt_5068e 17 = .ok (.getfield 9, 3) := by decide +kernel
theorem dJ0_charAt_5068e_20 : decode cJ0_charAt_5068e 20 = .ok (.iload_n 1, 1) := by decide +kernel
theorem dJ0_charAt_5068e_21 : decode cJ0_charAt_5068e 21 = .ok (.invokestatic 498, 3) := by decide +kernel
theorem dJ0_charAt_5068e_24 : decode cJ0_charAt_5068e 24 = .ok (.ireturn, 1) := by decide +kernel
theorem dJ0_indexOf_0f7a4_0 : decode cJ0_indexOf_0f7a4 0 = .ok (.aload_n 0, 1) := by decide +kernel
theorem dJ0_indexOf_0f7a4_1 : decode cJ0_indexOf_0f7a4 1 = .ok (.iload_n 1, 1) := by decide +kernel
theorem dJ0_indexOf_0f7a4_2 : decode cJ0_indexOf_0f7a4 2 = .ok (.iconst 0, 1) := by decide +kernel
theorem dJ0_indexOf_0f7a4_3 : decode cJ0_indexOf_0f7a4 3 = .ok (.invokevirtual 633, 3) := by decide +kernel
theorem dJ0_indexOf_0f7a4_6 : decode cJ0_indexOf_0f7a4 6 = .ok (.ireturn, 1) := by decide +kernel
theorem dJ0_indexOf_7cf53_0 : decode cJ0_indexOf_7cf53 0 = .ok (.aload_n 0, 1) := by decide +kernel
theorem dJ0_indexOf_7cf53_1 : decode cJ0_indexOf_7cf53 1 = .ok (.invokevirtual 492, 3) := by decide +kernel
theorem dJ0_indexOf_7cf53_4 : decode cJ0_indexOf_7cf53 4 = .ok (.ifCond .eq 19, 3) := by decide +kernel
theorem dJ0_indexOf_7cf53_7 : decode cJ0_indexOf_7cf53 7 = .ok (.aload_n 0, 1) := by decide +kernel
theorem dJ0_indexOf_7cf53_8 : decode cJ0_indexOf_7cf53 8 = .ok (.getfield 9, 3) := by decide +kernel
theorem dJ0_indexOf_7cf53_11 : decode cJ0_indexOf_7cf53 11 = .ok (.iload_n 1, 1) := by decide +kernel
theorem dJ0_indexOf_7cf53_12 : decode cJ0_indexOf_7cf53 12 = .ok (.iload_n 2, 1) := by decide +kernel
theorem dJ0_indexOf_7cf53_13 : decode cJ0_indexOf_7cf53 13 = .ok (.aload_n 0, 1) := by decide +kernel
theorem dJ0_indexOf_7cf53_14 : decode cJ0_indexOf_7cf53 14 = .ok (.invokevirtual 505, 3) := by decide +kernel
theorem dJ0_indexOf_7cf53_17 : decode cJ0_indexOf_7cf53 17 = .ok (.invokestatic 637, 3) := by decide +kernel
theorem dJ0_indexOf_7cf53_20 : decode cJ0_indexOf_7cf53 20 = .ok (.goto 16, 3) := by decide +kernel
theorem dJ0_indexOf_7cf53_23 : decode cJ0_indexOf_7cf53 23 = .ok (.aload_n 0, 1) := by decide +kernel
theorem dJ0_indexOf_7cf53_24 : decode cJ0_indexOf_7cf53 24 = .ok (.getfield 9, 3) := by decide +kernel
theorem dJ0_indexOf_7cf53_27 : decode cJ0_indexOf_7cf53 27 = .ok (.iload_n 1, 1) := by decide +kernel
theorem dJ0_indexOf_7cf53_28 : decode cJ0_indexOf_7cf53 28 = .ok (.iload_n 2, 1) := by decide +kernel
theorem dJ0_indexOf_7cf53_29 : decode cJ0_indexOf_7cf53 29 = .ok (.aload_n 0, 1) := by decide +kernel
theorem dJ0_indexOf_7cf53_30 : decode cJ0_indexOf_7cf53 30 = .ok (.invokevirtual 505, 3) := by decide +kernel
theorem dJ0_indexOf_7cf53_33 : decode cJ0_indexOf_7cf53 33 = .ok (.invokestatic 640, 3) := by decide +kernel
theorem dJ0_indexOf_7cf53_36 : decode cJ0_indexOf_7cf53 36 = .ok (.ireturn, 1) := by decide +kernel
theorem dJ0_coder_7d493_0 : decode cJ0_coder_7d493 0 = .ok (.getstatic 38, 3) := by decide +kernel
theorem dJ0_coder_7d493_3 : decode cJ0_coder_7d493 3 = .ok (.ifCond .eq 10, 3) := by decide +kernel
theorem dJ0_coder_7d493_6 : decode cJ0_coder_7d493 6 = .ok (.aload_n 0, 1) := by decide +kernel
theorem dJ0_coder_7d493_7 : decode cJ0_coder_7d493 7 = .ok (.getfield 15, 3) := by decide +kernel
theorem dJ0_coder_7d493_10 : decode cJ0_coder_7d493 10 = .ok (.goto 4, 3) := by decide +kernel
theorem dJ0_coder_7d493_13 : decode cJ0_coder_7d493 13 = .ok (.iconst 1, 1) := by decide +kernel
theorem dJ0_coder_7d493_14 : decode cJ0_coder_7d493 14 = .ok (.ireturn, 1) := by decide +kernel
theorem dJ0_isLatin1_aae02_0 : decode cJ0_isLatin1_aae02 0 = .ok (.getstatic 38, 3) := by decide +kernel
theorem dJ0_isLatin1_aae02_3 : decode cJ0_isLatin1_aae02 3 = .ok (.ifCond .eq 14, 3) := by decide +kernel
theorem dJ0_isLatin1_aae02_6 : decode cJ0_isLatin1_aae02 6 = .ok (.aload_n 0, 1) := by decide +kernel
theorem dJ0_isLatin1_aae02_7 : decode cJ0_isLatin1_aae02 7 = .ok (.getfield 15, 3) := by decide +kernel
theorem dJ0_isLatin1_aae02_10 : decode cJ0_isLatin1_aae02 10 = .ok (.ifCond .ne 7, 3) := by decide +kernel
theorem dJ0_isLatin1_aae02_13 : decode cJ0_isLatin1_aae02 13 = .ok (.iconst 1, 1) := by decide +kernel
theorem dJ0_isLatin1_aae02_14 : decode cJ0_isLatin1_aae02 14 = .ok (.goto 4, 3) := by decide +kernel
theorem dJ0_isLatin1_aae02_17 : decode cJ0_isLatin1_aae02 17 = .ok (.iconst 0, 1) := by decide +kernel
theorem dJ0_isLatin1_aae02_18 : decode cJ0_isLatin1_aae02 18 = .ok (.ireturn, 1) := by decide +kernel
theorem dJ0_checkIndex_df160_0 : decode cJ0_checkIndex_df160 0 = .ok (.iload_n 0, 1) := by decide +kernel
theorem dJ0_checkIndex_df160_1 : decode cJ0_checkIndex_df160 1 = .ok (.iload_n 1, 1) := by decide +kernel
theorem dJ0_checkIndex_df160_2 : decode cJ0_checkIndex_df160 2 = .ok (.getstatic 1053, 3) := by decide +kernel
theorem dJ0_checkIndex_df160_5 : decode cJ0_checkIndex_df160 5 = .ok (.invokestatic 1059, 3) := by decide +kernel
theorem dJ0_checkIndex_df160_8 : decode cJ0_checkIndex_df160 8 = .ok (.pop, 1) := by decide +kernel
theorem dJ0_checkIndex_df160_9 : decode cJ0_checkIndex_df160 9 = .ok (.return_, 1) := by decide +kernel
theorem dJ0_checkBoundsBeginEnd_23922_0 : decode cJ0_checkBoundsBeginEnd_23922 0 = .ok (.iload_n 0, 1) := by decide +kernel
theorem dJ0_checkBoundsBeginEnd_23922_1 : decode cJ0_checkBoundsBeginEnd_23922 1 = .ok (.iload_n 1, 1) := by decide +kernel
theorem dJ0_checkBoundsBeginEnd_23922_2 : decode cJ0_checkBoundsBeginEnd_23922 2 = .ok (.iload_n 2, 1) := by decide +kernel
theorem dJ0_checkBoundsBeginEnd_23922_3 : decode cJ0_checkBoundsBeginEnd_23922 3 = .ok (.getstatic 1053, 3) := by decide +kernel
theorem dJ0_checkBoundsBeginEnd_23922_6 : decode cJ0_checkBoundsBeginEnd_23922 6 = .ok (.invokestatic 1062, 3) := by decide +kernel
theorem dJ0_checkBoundsBeginEnd_23922_9 : decode cJ0_checkBoundsBeginEnd_23922 9 = .ok (.pop, 1) := by decide +kernel
theorem dJ0_checkBoundsBeginEnd_23922_10 : decode cJ0_checkBoundsBeginEnd_23922 10 = .ok (.return_, 1) := by decide +kernel
theorem dJ1_charAt_3b067_0 : decode cJ1_charAt_3b067 0 = .ok (.iload_n 1, 1) := by decide +kernel
theorem dJ1_charAt_3b067_1 : decode cJ1_charAt_3b067 1 = .ok (.aload_n 0, 1) := by decide +kernel
theorem dJ1_charAt_3b067_2 : decode cJ1_charAt_3b067 2 = .ok (.arraylength, 1) := by decide +kernel
theorem dJ1_charAt_3b067_3 : decode cJ1_charAt_3b067 3 = .ok (.invokestatic 9, 3) := by decide +kernel
theorem dJ1_charAt_3b067_6 : decode cJ1_charAt_3b067 6 = .ok (.aload_n 0, 1) := by decide +kernel
theorem dJ1_charAt_3b067_7 : decode cJ1_charAt_3b067 7 = .ok (.iload_n 1, 1) := by decide +kernel
theorem dJ1_charAt_3b067_8 : decode cJ1_charAt_3b067 8 = .ok (.baload, 1) := by decide +kernel
theorem dJ1_charAt_3b067_9 : decode cJ1_charAt_3b067 9 = .ok (.sipush 255, 3) := by decide +kernel
theorem dJ1_charAt_3b067_12 : decode cJ1_charAt_3b067 12 = .ok (.iand, 1) := by decide +kernel
theorem dJ1_charAt_3b067_13 : decode cJ1_charAt_3b067 13 = .ok (.i2c, 1) := by decide +kernel
theorem dJ1_charAt_3b067_14 : decode cJ1_charAt_3b067 14 = .ok (.ireturn, 1) := by decide +kernel
theorem dJ1_canEncode_9a6ad_0 : decode cJ1_canEncode_9a6ad 0 = .ok (.iload_n 0, 1) := by decide +kernel
theorem dJ1_canEncode_9a6ad_1 : decode cJ1_canEncode_9a6ad 1 = .ok (.ifCond .lt 14, 3) := by decide +kernel
theorem dJ1_canEncode_9a6ad_4 : decode cJ1_canEncode_9a6ad 4 = .ok (.iload_n 0, 1) := by decide +kernel
theorem dJ1_canEncode_9a6ad_5 : decode cJ1_canEncode_9a6ad 5 = .ok (.sipush 255, 3) := by decide +kernel
theorem dJ1_canEncode_9a6ad_8 : decode cJ1_canEncode_9a6ad 8 = .ok (.if_icmp .gt 7, 3) := by decide +kernel
theorem dJ1_canEncode_9a6ad_11 : decode cJ1_canEncode_9a6ad 11 = .ok (.iconst 1, 1) := by decide +kernel
theorem dJ1_canEncode_9a6ad_12 : decode cJ1_canEncode_9a6ad 12 = .ok (.goto 4, 3) := by decide +kernel
theorem dJ1_canEncode_9a6ad_15 : decode cJ1_canEncode_9a6ad 15 = .ok (.iconst 0, 1) := by decide +kernel
theorem dJ1_canEncode_9a6ad_16 : decode cJ1_canEncode_9a6ad 16 = .ok (.ireturn, 1) := by decide +kernel
theorem dJ1_indexOf_4cfef_0 : decode cJ1_indexOf_4cfef 0 = .ok (.iload_n 1, 1) := by decide +kernel
theorem dJ1_indexOf_4cfef_1 : decode cJ1_indexOf_4cfef 1 = .ok (.invokestatic 88, 3) := by decide +kernel
theorem dJ1_indexOf_4cfef_4 : decode cJ1_indexOf_4cfef 4 = .ok (.ifCond .ne 5, 3) := by decide +kernel
theorem dJ1_indexOf_4cfef_7 : decode cJ1_indexOf_4cfef 7 = .ok (.iconst (-1), 1) := by decide +kernel
theorem dJ1_indexOf_4cfef_8 : decode cJ1_indexOf_4cfef 8 = .ok (.ireturn, 1) := by decide +kernel
theorem dJ1_indexOf_4cfef_9 : decode cJ1_indexOf_4cfef 9 = .ok (.iload_n 2, 1) := by decide +kernel
theorem dJ1_indexOf_4cfef_10 : decode cJ1_indexOf_4cfef 10 = .ok (.iconst 0, 1) := by decide +kernel
theorem dJ1_indexOf_4cfef_11 : decode cJ1_indexOf_4cfef 11 = .ok (.invokestatic 92, 3) := by decide +kernel
theorem dJ1_indexOf_4cfef_14 : decode cJ1_indexOf_4cfef 14 = .ok (.istore_n 2, 1) := by decide +kernel
theorem dJ1_indexOf_4cfef_15 : decode cJ1_indexOf_4cfef 15 = .ok (.iload_n 3, 1) := by decide +kernel
theorem dJ1_indexOf_4cfef_16 : decode cJ1_indexOf_4cfef 16 = .ok (.aload_n 0, 1) := by decide +kernel
theorem dJ1_indexOf_4cfef_17 : decode cJ1_indexOf_4cfef 17 = .ok (.arraylength, 1) := by decide +kernel
theorem dJ1_indexOf_4cfef_18 : decode cJ1_indexOf_4cfef 18 = .ok (.invokestatic 38, 3) := by decide +kernel
theorem dJ1_indexOf_4cfef_21 : decode cJ1_indexOf_4cfef 21 = .ok (.istore_n 3, 1) := by decide +kernel
theorem dJ1_indexOf_4cfef_22 : decode cJ1_indexOf_4cfef 22 = .ok (.iload_n 2, 1) := by decide +kernel
theorem dJ1_indexOf_4cfef_23 : decode cJ1_indexOf_4cfef 23 = .ok (.iload_n 3, 1) := by decide +kernel
theorem dJ1_indexOf_4cfef_24 : decode cJ1_indexOf_4cfef 24 = .ok (.if_icmp .lt 5, 3) := by decide +kernel
theorem dJ1_indexOf_4cfef_27 : decode cJ1_indexOf_4cfef 27 = .ok (.iconst (-1), 1) := by decide +kernel
theorem dJ1_indexOf_4cfef_28 : decode cJ1_indexOf_4cfef 28 = .ok (.ireturn, 1) := by decide +kernel
theorem dJ1_indexOf_4cfef_29 : decode cJ1_indexOf_4cfef 29 = .ok (.aload_n 0, 1) := by decide +kernel
theorem dJ1_indexOf_4cfef_30 : decode cJ1_indexOf_4cfef 30 = .ok (.iload_n 1, 1) := by decide +kernel
theorem dJ1_indexOf_4cfef_31 : decode cJ1_indexOf_4cfef 31 = .ok (.iload_n 2, 1) := by decide +kernel
theorem dJ1_indexOf_4cfef_32 : decode cJ1_indexOf_4cfef 32 = .ok (.iload_n 3, 1) := by decide +kernel
theorem dJ1_indexOf_4cfef_33 : decode cJ1_indexOf_4cfef 33 = .ok (.invokestatic 95, 3) := by decide +kernel
theorem dJ1_indexOf_4cfef_36 : decode cJ1_indexOf_4cfef 36 = .ok (.ireturn, 1) := by decide +kernel
theorem dJ1_indexOfChar_4cfef_0 : decode cJ1_indexOfChar_4cfef 0 = .ok (.iload_n 1, 1) := by decide +kernel
theorem dJ1_indexOfChar_4cfef_1 : decode cJ1_indexOfChar_4cfef 1 = .ok (.i2b, 1) := by decide +kernel
theorem dJ1_indexOfChar_4cfef_2 : decode cJ1_indexOfChar_4cfef 2 = .ok (.istore 4, 2) := by decide +kernel
theorem dJ1_indexOfChar_4cfef_4 : decode cJ1_indexOfChar_4cfef 4 = .ok (.iload_n 2, 1) := by decide +kernel
theorem dJ1_indexOfChar_4cfef_5 : decode cJ1_indexOfChar_4cfef 5 = .ok (.istore 5, 2) := by decide +kernel
theorem dJ1_indexOfChar_4cfef_7 : decode cJ1_indexOfChar_4cfef 7 = .ok (.iload 5, 2) := by decide +kernel
theorem dJ1_indexOfChar_4cfef_9 : decode cJ1_indexOfChar_4cfef 9 = .ok (.iload_n 3, 1) := by decide +kernel
theorem dJ1_indexOfChar_4cfef_10 : decode cJ1_indexOfChar_4cfef 10 = .ok (.if_icmp .ge 21, 3) := by decide +kernel
theorem dJ1_indexOfChar_4cfef_13 : decode cJ1_indexOfChar_4cfef 13 = .ok (.aload_n 0, 1) := by decide +kernel
theorem dJ1_indexOfChar_4cfef_14 : decode cJ1_indexOfChar_4cfef 14 = .ok (.iload 5, 2) := by decide +kernel
theorem dJ1_indexOfChar_4cfef_16 : decode cJ1_indexOfChar_4cfef 16 = .ok (.baload, 1) := by decide +kernel
theorem dJ1_indexOfChar_4cfef_17 : decode cJ1_indexOfChar_4cfef 17 = .ok (.iload 4, 2) := by decide +kernel
theorem dJ1_indexOfChar_4cfef_19 : decode cJ1_indexOfChar_4cfef 19 = .ok (.if_icmp .ne 6, 3) := by decide +kernel
theorem dJ1_indexOfChar_4cfef_22 : decode cJ1_indexOfChar_4cfef 22 = .ok (.iload 5, 2) := by decide +kernel
theorem dJ1_indexOfChar_4cfef_24 : decode cJ1_indexOfChar_4cfef 24 = .ok (.ireturn, 1) := by decide +kernel
theorem dJ1_indexOfChar_4cfef_25 : decode cJ1_indexOfChar_4cfef 25 = .ok (.iinc 5 1, 3) := by decide +kernel
theorem dJ1_indexOfChar_4cfef_28 : decode cJ1_indexOfChar_4cfef 28 = .ok (.goto (-21), 3) := by decide +kernel
theorem dJ1_indexOfChar_4cfef_31 : decode cJ1_indexOfChar_4cfef 31 = .ok (.iconst (-1), 1) := by decide +kernel
theorem dJ1_indexOfChar_4cfef_32 : decode cJ1_indexOfChar_4cfef 32 = .ok (.ireturn, 1) := by decide +kernel
theorem dJ2_getChar_3b067_0 : decode cJ2_getChar_3b067 0 = .ok (.getstatic 44, 3) := by decide +kernel
theorem dJ2_getChar_3b067_3 : decode cJ2_getChar_3b067 3 = .ok (.ifCond .ne 25, 3) := by decide +kernel
theorem dJ2_getChar_3b067_6 : decode cJ2_getChar_3b067 6 = .ok (.iload_n 1, 1) := by decide +kernel
theorem dJ2_getChar_3b067_7 : decode cJ2_getChar_3b067 7 = .ok (.ifCond .lt 11, 3) := by decide +kernel
theorem dJ2_getChar_3b067_10 : decode cJ2_getChar_3b067 10 = .ok (.iload_n 1, 1) := by decide +kernel
theorem dJ2_getChar_3b067_11 : decode cJ2_getChar_3b067 11 = .ok (.aload_n 0, 1) := by decide +kernel
theorem dJ2_getChar_3b067_12 : decode cJ2_getChar_3b067 12 = .ok (.invokestatic 48, 3) := by decide +kernel
theorem dJ2_getChar_3b067_15 : decode cJ2_getChar_3b067 15 = .ok (.if_icmp .lt 13, 3) := by decide +kernel
theorem dJ2_getChar_3b067_18 : decode cJ2_getChar_3b067 18 = .ok (.new 52, 3) := by decide +kernel
theorem dJ2_getChar_3b067_21 : decode cJ2_getChar_3b067 21 = .ok (.dup, 1) := by decide +kernel
theorem dJ2_getChar_3b067_22 : decode cJ2_getChar_3b067 22 = .ok (.ldc 54, 2) := by decide +kernel
theorem dJ2_getChar_3b067_24 : decode cJ2_getChar_3b067 24 = .ok (.invokespecial 56, 3) := by decide +kernel
theorem dJ2_getChar_3b067_27 : decode cJ2_getChar_3b067 27 = .ok (.athrow, 1) := by decide +kernel
theorem dJ2_getChar_3b067_28 : decode cJ2_getChar_3b067 28 = .ok (.iload_n 1, 1) := by decide +kernel
theorem dJ2_getChar_3b067_29 : decode cJ2_getChar_3b067 29 = .ok (.iconst 1, 1) := by decide +kernel
theorem dJ2_getChar_3b067_30 : decode cJ2_getChar_3b067 30 = .ok (.ishl, 1) := by decide +kernel
theorem dJ2_getChar_3b067_31 : decode cJ2_getChar_3b067 31 = .ok (.istore_n 1, 1) := by decide +kernel
theorem dJ2_getChar_3b067_32 : decode cJ2_getChar_3b067 32 = .ok (.aload_n 0, 1) := by decide +kernel
theorem dJ2_getChar_3b067_33 : decode cJ2_getChar_3b067 33 = .ok (.iload_n 1, 1) := by decide +kernel
theorem dJ2_getChar_3b067_34 : decode cJ2_getChar_3b067 34 = .ok (.iinc 1 1, 3) := by decide +kernel
theorem dJ2_getChar_3b067_37 : decode cJ2_getChar_3b067 37 = .ok (.baload, 1) := by decide +kernel
theorem dJ2_getChar_3b067_38 : decode cJ2_getChar_3b067 38 = .ok (.sipush 255, 3) := by decide +kernel
theorem dJ2_getChar_3b067_41 : decode cJ2_getChar_3b067 41 = .ok (.iand, 1) := by decide +kernel
theorem dJ2_getChar_3b067_42 : decode cJ2_getChar_3b067 42 = .ok (.getstatic 59, 3) := by decide +kernel
theorem dJ2_getChar_3b067_45 : decode cJ2_getChar_3b067 45 = .ok (.ishl, 1) := by decide +kernel
theorem dJ2_getChar_3b067_46 : decode cJ2_getChar_3b067 46 = .ok (.aload_n 0, 1) := by decide +kernel
theorem dJ2_getChar_3b067_47 : decode cJ2_getChar_3b067 47 = .ok (.iload_n 1, 1) := by decide +kernel
theorem dJ2_getChar_3b067_48 : decode cJ2_getChar_3b067 48 = .ok (.baload, 1) := by decide +kernel
theorem dJ2_getChar_3b067_49 : decode cJ2_getChar_3b067 49 = .ok (.sipush 255, 3) := by decide +kernel
theorem dJ2_getChar_3b067_52 : decode cJ2_getChar_3b067 52 = .ok (.iand, 1) := by decide +kernel
theorem dJ2_getChar_3b067_53 : decode cJ2_getChar_3b067 53 = .ok (.getstatic 63, 3) := by decide +kernel
theorem dJ2_getChar_3b067_56 : decode cJ2_getChar_3b067 56 = .ok (.ishl, 1) := by decide +kernel
theorem dJ2_getChar_3b067_57 : decode cJ2_getChar_3b067 57 = .ok (.ior, 1) := by decide +kernel
theorem dJ2_getChar_3b067_58 : decode cJ2_getChar_3b067 58 = .ok (.i2c, 1) := by decide +kernel
theorem dJ2_getChar_3b067_59 : decode cJ2_getChar_3b067 59 = .ok (.ireturn, 1) := by decide +kernel
theorem dJ2_length_9d52b_0 : decode cJ2_length_9d52b 0 = .ok (.aload_n 0, 1) := by decide +kernel
theorem dJ2_length_9d52b_1 : decode cJ2_length_9d52b 1 = .ok (.arraylength, 1) := by decide +kernel
theorem dJ2_length_9d52b_2 : decode cJ2_length_9d52b 2 = .ok (.iconst 1, 1) := by decide +kernel
theorem dJ2_length_9d52b_3 : decode cJ2_length_9d52b 3 = .ok (.ishr, 1) := by decide +kernel
theorem dJ2_length_9d52b_4 : decode cJ2_length_9d52b 4 = .ok (.ireturn, 1) := by decide +kernel
theorem dJ2_indexOf_4cfef_0 : decode cJ2_indexOf_4cfef 0 = .ok (.iload_n 2, 1) := by decide +kernel
theorem dJ2_indexOf_4cfef_1 : decode cJ2_indexOf_4cfef 1 = .ok (.iconst 0, 1) := by decide +kernel
theorem dJ2_indexOf_4cfef_2 : decode cJ2_indexOf_4cfef 2 = .ok (.invokestatic 224, 3) := by decide +kernel
theorem dJ2_indexOf_4cfef_5 : decode cJ2_indexOf_4cfef 5 = .ok (.istore_n 2, 1) := by decide +kernel
theorem dJ2_indexOf_4cfef_6 : decode cJ2_indexOf_4cfef 6 = .ok (.iload_n 3, 1) := by decide +kernel
theorem dJ2_indexOf_4cfef_7 : decode cJ2_indexOf_4cfef 7 = .ok (.aload_n 0, 1) := by decide +kernel
theorem dJ2_indexOf_4cfef_8 : decode cJ2_indexOf_4cfef 8 = .ok (.arraylength, 1) := by decide +kernel
theorem dJ2_indexOf_4cfef_9 : decode cJ2_indexOf_4cfef 9 = .ok (.iconst 1, 1) := by decide +kernel
theorem dJ2_indexOf_4cfef_10 : decode cJ2_indexOf_4cfef 10 = .ok (.ishr, 1) := by decide +kernel
theorem dJ2_indexOf_4cfef_11 : decode cJ2_indexOf_4cfef 11 = .ok (.invokestatic 183, 3) := by decide +kernel
theorem dJ2_indexOf_4cfef_14 : decode cJ2_indexOf_4cfef 14 = .ok (.istore_n 3, 1) := by decide +kernel
theorem dJ2_indexOf_4cfef_15 : decode cJ2_indexOf_4cfef 15 = .ok (.iload_n 2, 1) := by decide +kernel
theorem dJ2_indexOf_4cfef_16 : decode cJ2_indexOf_4cfef 16 = .ok (.iload_n 3, 1) := by decide +kernel
theorem dJ2_indexOf_4cfef_17 : decode cJ2_indexOf_4cfef 17 = .ok (.if_icmp .lt 5, 3) := by decide +kernel
theorem dJ2_indexOf_4cfef_20 : decode cJ2_indexOf_4cfef 20 = .ok (.iconst (-1), 1) := by decide +kernel
theorem dJ2_indexOf_4cfef_21 : decode cJ2_indexOf_4cfef 21 = .ok (.ireturn, 1) := by decide +kernel
theorem dJ2_indexOf_4cfef_22 : decode cJ2_indexOf_4cfef 22 = .ok (.iload_n 1, 1) := by decide +kernel
theorem dJ2_indexOf_4cfef_23 : decode cJ2_indexOf_4cfef 23 = .ok (.ldc 227, 2) := by decide +kernel
theorem dJ2_indexOf_4cfef_25 : decode cJ2_indexOf_4cfef 25 = .ok (.if_icmp .ge 11, 3) := by decide +kernel
theorem dJ2_indexOf_4cfef_28 : decode cJ2_indexOf_4cfef 28 = .ok (.aload_n 0, 1) := by decide +kernel
theorem dJ2_indexOf_4cfef_29 : decode cJ2_indexOf_4cfef 29 = .ok (.iload_n 1, 1) := by decide +kernel
theorem dJ2_indexOf_4cfef_30 : decode cJ2_indexOf_4cfef 30 = .ok (.iload_n 2, 1) := by decide +kernel
theorem dJ2_indexOf_4cfef_31 : decode cJ2_indexOf_4cfef 31 = .ok (.iload_n 3, 1) := by decide +kernel
theorem dJ2_indexOf_4cfef_32 : decode cJ2_indexOf_4cfef 32 = .ok (.invokestatic 228, 3) := by decide +kernel
theorem dJ2_indexOf_4cfef_35 : decode cJ2_indexOf_4cfef 35 = .ok (.ireturn, 1) := by decide +kernel
theorem dJ2_indexOf_4cfef_36 : decode cJ2_indexOf_4cfef 36 = .ok (.aload_n 0, 1) := by decide +kernel
theorem dJ2_indexOf_4cfef_37 : decode cJ2_indexOf_4cfef 37 = .ok (.iload_n 1, 1) := by decide +kernel
theorem dJ2_indexOf_4cfef_38 : decode cJ2_indexOf_4cfef 38 = .ok (.iload_n 2, 1) := by decide +kernel
theorem dJ2_indexOf_4cfef_39 : decode cJ2_indexOf_4cfef 39 = .ok (.iload_n 3, 1) := by decide +kernel
theorem dJ2_indexOf_4cfef_40 : decode cJ2_indexOf_4cfef 40 = .ok (.invokestatic 232, 3) := by decide +kernel
theorem dJ2_indexOf_4cfef_43 : decode cJ2_indexOf_4cfef 43 = .ok (.ireturn, 1) := by decide +kernel
theorem dJ2_indexOfChar_4cfef_0 : decode cJ2_indexOfChar_4cfef 0 = .ok (.iload_n 2, 1) := by decide +kernel
theorem dJ2_indexOfChar_4cfef_1 : decode cJ2_indexOfChar_4cfef 1 = .ok (.iload_n 3, 1) := by decide +kernel
theorem dJ2_indexOfChar_4cfef_2 : decode cJ2_indexOfChar_4cfef 2 = .ok (.aload_n 0, 1) := by decide +kernel
theorem dJ2_indexOfChar_4cfef_3 : decode cJ2_indexOfChar_4cfef 3 = .ok (.invokestatic 96, 3) := by decide +kernel
theorem dJ2_indexOfChar_4cfef_6 : decode cJ2_indexOfChar_4cfef 6 = .ok (.aload_n 0, 1) := by decide +kernel
theorem dJ2_indexOfChar_4cfef_7 : decode cJ2_indexOfChar_4cfef 7 = .ok (.iload_n 1, 1) := by decide +kernel
theorem dJ2_indexOfChar_4cfef_8 : decode cJ2_indexOfChar_4cfef 8 = .ok (.iload_n 2, 1) := by decide +kernel
theorem dJ2_indexOfChar_4cfef_9 : decode cJ2_indexOfChar_4cfef 9 = .ok (.iload_n 3, 1) := by decide +kernel
theorem dJ2_indexOfChar_4cfef_10 : decode cJ2_indexOfChar_4cfef 10 = .ok (.invokestatic 244, 3) := by decide +kernel
theorem dJ2_indexOfChar_4cfef_13 : decode cJ2_indexOfChar_4cfef 13 = .ok (.ireturn, 1) := by decide +kernel
theorem dJ2_indexOfCharUnsafe_4cfef_0 : decode cJ2_indexOfCharUnsafe_4cfef 0 = .ok (.iload_n 2, 1) := by decide +kernel
theorem dJ2_indexOfCharUnsafe_4cfef_1 : decode cJ2_indexOfCharUnsafe_4cfef 1 = .ok (.istore 4, 2) := by decide +kernel
theorem dJ2_indexOfCharUnsafe_4cfef_3 : decode cJ2_indexOfCharUnsafe_4cfef 3 = .ok (.iload 4, 2) := by decide +kernel
theorem dJ2_indexOfCharUnsafe_4cfef_5 : decode cJ2_indexOfCharUnsafe_4cfef 5 = .ok (.iload_n 3, 1) := by decide +kernel
theorem dJ2_indexOfCharUnsafe_4cfef_6 : decode cJ2_indexOfCharUnsafe_4cfef 6 = .ok (.if_icmp .ge 22, 3) := by decide +kernel
theorem dJ2_indexOfCharUnsafe_4cfef_9 : decode cJ2_indexOfCharUnsafe_4cfef 9 = .ok (.aload_n 0, 1) := by decide +kernel
theorem dJ2_indexOfCharUnsafe_4cfef_10 : decode cJ2_indexOfCharUnsafe_4cfef 10 = .ok (.iload 4, 2) := by decide +kernel
theorem dJ2_indexOfCharUnsafe_4cfef_12 : decode cJ2_indexOfCharUnsafe_4cfef 12 = .ok (.invokestatic 71, 3) := by decide +kernel
theorem dJ2_indexOfCharUnsafe_4cfef_15 : decode cJ2_indexOfCharUnsafe_4cfef 15 = .ok (.iload_n 1, 1) := by decide +kernel
theorem dJ2_indexOfCharUnsafe_4cfef_16 : decode cJ2_indexOfCharUnsafe_4cfef 16 = .ok (.if_icmp .ne 6, 3) := by decide +kernel
theorem dJ2_indexOfCharUnsafe_4cfef_19 : decode cJ2_indexOfCharUnsafe_4cfef 19 = .ok (.iload 4, 2) := by decide +kernel
theorem dJ2_indexOfCharUnsafe_4cfef_21 : decode cJ2_indexOfCharUnsafe_4cfef 21 = .ok (.ireturn, 1) := by decide +kernel
theorem dJ2_indexOfCharUnsafe_4cfef_22 : decode cJ2_indexOfCharUnsafe_4cfef 22 = .ok (.iinc 4 1, 3) := by decide +kernel
theorem dJ2_indexOfCharUnsafe_4cfef_25 : decode cJ2_indexOfCharUnsafe_4cfef 25 = .ok (.goto (-22), 3) := by decide +kernel
theorem dJ2_indexOfCharUnsafe_4cfef_28 : decode cJ2_indexOfCharUnsafe_4cfef 28 = .ok (.iconst (-1), 1) := by decide +kernel
theorem dJ2_indexOfCharUnsafe_4cfef_29 : decode cJ2_indexOfCharUnsafe_4cfef 29 = .ok (.ireturn, 1) := by decide +kernel
theorem dJ2_indexOfSupplementary_4cfef_0 : decode cJ2_indexOfSupplementary_4cfef 0 = .ok (.iload_n 1, 1) := by decide +kernel
theorem dJ2_indexOfSupplementary_4cfef_1 : decode cJ2_indexOfSupplementary_4cfef 1 = .ok (.invokestatic 164, 3) := by decide +kernel
theorem dJ2_indexOfSupplementary_4cfef_4 : decode cJ2_indexOfSupplementary_4cfef 4 = .ok (.ifCond .eq 65, 3) := by decide +kernel
theorem dJ2_indexOfSupplementary_4cfef_7 : decode cJ2_indexOfSupplementary_4cfef 7 = .ok (.iload_n 1, 1) := by decide +kernel
theorem dJ2_indexOfSupplementary_4cfef_8 : decode cJ2_indexOfSupplementary_4cfef 8 = .ok (.invokestatic 157, 3) := by decide +kernel
theorem dJ2_indexOfSupplementary_4cfef_11 : decode cJ2_indexOfSupplementary_4cfef 11 = .ok (.istore 4, 2) := by decide +kernel
theorem dJ2_indexOfSupplementary_4cfef_13 : decode cJ2_indexOfSupplementary_4cfef 13 = .ok (.iload_n 1, 1) := by decide +kernel
theorem dJ2_indexOfSupplementary_4cfef_14 : decode cJ2_indexOfSupplementary_4cfef 14 = .ok (.invokestatic 161, 3) := by decide +kernel
theorem dJ2_indexOfSupplementary_4cfef_17 : decode cJ2_indexOfSupplementary_4cfef 17 = .ok (.istore 5, 2) := by decide +kernel
theorem dJ2_indexOfSupplementary_4cfef_19 : decode cJ2_indexOfSupplementary_4cfef 19 = .ok (.iload_n 2, 1) := by decide +kernel
theorem dJ2_indexOfSupplementary_4cfef_20 : decode cJ2_indexOfSupplementary_4cfef 20 = .ok (.iload_n 3, 1) := by decide +kernel
theorem dJ2_indexOfSupplementary_4cfef_21 : decode cJ2_indexOfSupplementary_4cfef 21 = .ok (.aload_n 0, 1) := by decide +kernel
theorem dJ2_indexOfSupplementary_4cfef_22 : decode cJ2_indexOfSupplementary_4cfef 22 = .ok (.invokestatic 96, 3) := by decide +kernel
theorem dJ2_indexOfSupplementary_4cfef_25 : decode cJ2_indexOfSupplementary_4cfef 25 = .ok (.iload_n 2, 1) := by decide +kernel
theorem dJ2_indexOfSupplementary_4cfef_26 : decode cJ2_indexOfSupplementary_4cfef 26 = .ok (.istore 6, 2) := by decide +kernel
theorem dJ2_indexOfSupplementary_4cfef_28 : decode cJ2_indexOfSupplementary_4cfef 28 = .ok (.iload 6, 2) := by decide +kernel
theorem dJ2_indexOfSupplementary_4cfef_30 : decode cJ2_indexOfSupplementary_4cfef 30 = .ok (.iload_n 3, 1) := by decide +kernel
theorem dJ2_indexOfSupplementary_4cfef_31 : decode cJ2_indexOfSupplementary_4cfef 31 = .ok (.iconst 1, 1) := by decide +kernel
theorem dJ2_indexOfSupplementary_4cfef_32 : decode cJ2_indexOfSupplementary_4cfef 32 = .ok (.isub, 1) := by decide +kernel
theorem dJ2_indexOfSupplementary_4cfef_33 : decode cJ2_indexOfSupplementary_4cfef 33 = .ok (.if_icmp .ge 36, 3) := by decide +kernel
theorem dJ2_indexOfSupplementary_4cfef_36 : decode cJ2_indexOfSupplementary_4cfef 36 = .ok (.aload_n 0, 1) := by decide +kernel
theorem dJ2_indexOfSupplementary_4cfef_37 : decode cJ2_indexOfSupplementary_4cfef 37 = .ok (.iload 6, 2) := by decide +kernel
theorem dJ2_indexOfSupplementary_4cfef_39 : decode cJ2_indexOfSupplementary_4cfef 39 = .ok (.invokestatic 71, 3) := by decide +kernel
theorem dJ2_indexOfSupplementary_4cfef_42 : decode cJ2_indexOfSupplementary_4cfef 42 = .ok (.iload 4, 2) := by decide +kernel
theorem dJ2_indexOfSupplementary_4cfef_44 : decode cJ2_indexOfSupplementary_4cfef 44 = .ok (.if_icmp .ne 19, 3) := by decide +kernel
theorem dJ2_indexOfSupplementary_4cfef_47 : decode cJ2_indexOfSupplementary_4cfef 47 = .ok (.aload_n 0, 1) := by decide +kernel
theorem dJ2_indexOfSupplementary_4cfef_48 : decode cJ2_indexOfSupplementary_4cfef 48 = .ok (.iload 6, 2) := by decide +kernel
theorem dJ2_indexOfSupplementary_4cfef_50 : decode cJ2_indexOfSupplementary_4cfef 50 = .ok (.iconst 1, 1) := by decide +kernel
theorem dJ2_indexOfSupplementary_4cfef_51 : decode cJ2_indexOfSupplementary_4cfef 51 = .ok (.iadd, 1) := by decide +kernel
theorem dJ2_indexOfSupplementary_4cfef_52 : decode cJ2_indexOfSupplementary_4cfef 52 = .ok (.invokestatic 71, 3) := by decide +kernel
theorem dJ2_indexOfSupplementary_4cfef_55 : decode cJ2_indexOfSupplementary_4cfef 55 = .ok (.iload 5, 2) := by decide +kernel
theorem dJ2_indexOfSupplementary_4cfef_57 : decode cJ2_indexOfSupplementary_4cfef 57 = .ok (.if_icmp .ne 6, 3) := by decide +kernel
theorem dJ2_indexOfSupplementary_4cfef_60 : decode cJ2_indexOfSupplementary_4cfef 60 = .ok (.iload 6, 2) := by decide +kernel
theorem dJ2_indexOfSupplementary_4cfef_62 : decode cJ2_indexOfSupplementary_4cfef 62 = .ok (.ireturn, 1) := by decide +kernel
theorem dJ2_indexOfSupplementary_4cfef_63 : decode cJ2_indexOfSupplementary_4cfef 63 = .ok (.iinc 6 1, 3) := by decide +kernel
theorem dJ2_indexOfSupplementary_4cfef_66 : decode cJ2_indexOfSupplementary_4cfef 66 = .ok (.goto (-38), 3) := by decide +kernel
theorem dJ2_indexOfSupplementary_4cfef_69 : decode cJ2_indexOfSupplementary_4cfef 69 = .ok (.iconst (-1), 1) := by decide +kernel
theorem dJ2_indexOfSupplementary_4cfef_70 : decode cJ2_indexOfSupplementary_4cfef 70 = .ok (.ireturn, 1) := by decide +kernel
theorem dJ2_charAt_3b067_0 : decode cJ2_charAt_3b067 0 = .ok (.iload_n 1, 1) := by decide +kernel
theorem dJ2_charAt_3b067_1 : decode cJ2_charAt_3b067 1 = .ok (.aload_n 0, 1) := by decide +kernel
theorem dJ2_charAt_3b067_2 : decode cJ2_charAt_3b067 2 = .ok (.invokestatic 67, 3) := by decide +kernel
theorem dJ2_charAt_3b067_5 : decode cJ2_charAt_3b067 5 = .ok (.aload_n 0, 1) := by decide +kernel
theorem dJ2_charAt_3b067_6 : decode cJ2_charAt_3b067 6 = .ok (.iload_n 1, 1) := by decide +kernel
theorem dJ2_charAt_3b067_7 : decode cJ2_charAt_3b067 7 = .ok (.invokestatic 71, 3) := by decide +kernel
theorem dJ2_charAt_3b067_10 : decode cJ2_charAt_3b067 10 = .ok (.ireturn, 1) := by decide +kernel
theorem dJ2_checkIndex_2214a_0 : decode cJ2_checkIndex_2214a 0 = .ok (.iload_n 0, 1) := by decide +kernel
theorem dJ2_checkIndex_2214a_1 : decode cJ2_checkIndex_2214a 1 = .ok (.aload_n 1, 1) := by decide +kernel
theorem dJ2_checkIndex_2214a_2 : decode cJ2_checkIndex_2214a 2 = .ok (.invokestatic 48, 3) := by decide +kernel
theorem dJ2_checkIndex_2214a_5 : decode cJ2_checkIndex_2214a 5 = .ok (.invokestatic 414, 3) := by decide +kernel
theorem dJ2_checkIndex_2214a_8 : decode cJ2_checkIndex_2214a 8 = .ok (.return_, 1) := by decide +kernel
theorem dJ2_checkBoundsBeginEnd_d044e_0 : decode cJ2_checkBoundsBeginEnd_d044e 0 = .ok (.iload_n 0, 1) := by decide +kernel
theorem dJ2_checkBoundsBeginEnd_d044e_1 : decode cJ2_checkBoundsBeginEnd_d044e 1 = .ok (.iload_n 1, 1) := by decide +kernel
theorem dJ2_checkBoundsBeginEnd_d044e_2 : decode cJ2_checkBoundsBeginEnd_d044e 2 = .ok (.aload_n 2, 1) := by decide +kernel
theorem dJ2_checkBoundsBeginEnd_d044e_3 : decode cJ2_checkBoundsBeginEnd_d044e 3 = .ok (.invokestatic 48, 3) := by decide +kernel
theorem dJ2_checkBoundsBeginEnd_d044e_6 : decode cJ2_checkBoundsBeginEnd_d044e 6 = .ok (.invokestatic 241, 3) := by decide +kernel
theorem dJ2_checkBoundsBeginEnd_d044e_9 : decode cJ2_checkBoundsBeginEnd_d044e 9 = .ok (.return_, 1) := by decide +kernel
theorem dJ3_checkIndex_8e157_0 : decode cJ3_checkIndex_8e157 0 = .ok (.iload_n 0, 1) := by decide +kernel
theorem dJ3_checkIndex_8e157_1 : decode cJ3_checkIndex_8e157 1 = .ok (.ifCond .lt 8, 3) := by decide +kernel
theorem dJ3_checkIndex_8e157_4 : decode cJ3_checkIndex_8e157 4 = .ok (.iload_n 0, 1) := by decide +kernel
theorem dJ3_checkIndex_8e157_5 : decode cJ3_checkIndex_8e157 5 = .ok (.iload_n 1, 1) := by decide +kernel
theorem dJ3_checkIndex_8e157_6 : decode cJ3_checkIndex_8e157 6 = .ok (.if_icmp .lt 10, 3) := by decide +kernel
theorem dJ3_checkIndex_8e157_9 : decode cJ3_checkIndex_8e157 9 = .ok (.aload_n 2, 1) := by decide +kernel
theorem dJ3_checkIndex_8e157_10 : decode cJ3_checkIndex_8e157 10 = .ok (.iload_n 0, 1) := by decide +kernel
theorem dJ3_checkIndex_8e157_11 : decode cJ3_checkIndex_8e157 11 = .ok (.iload_n 1, 1) := by decide +kernel
theorem dJ3_checkIndex_8e157_12 : decode cJ3_checkIndex_8e157 12 = .ok (.invokestatic 95, 3) := by decide +kernel
theorem dJ3_checkIndex_8e157_15 : decode cJ3_checkIndex_8e157 15 = .ok (.athrow, 1) := by decide +kernel
theorem dJ3_checkIndex_8e157_16 : decode cJ3_checkIndex_8e157 16 = .ok (.iload_n 0, 1) := by decide +kernel
theorem dJ3_checkIndex_8e157_17 : decode cJ3_checkIndex_8e157 17 = .ok (.ireturn, 1) := by decide +kernel
theorem dJ3_checkFromToIndex_8c36e_0 : decode cJ3_checkFromToIndex_8c36e 0 = .ok (.iload_n 0, 1) := by decide +kernel
theorem dJ3_checkFromToIndex_8c36e_1 : decode cJ3_checkFromToIndex_8c36e 1 = .ok (.ifCond .lt 13, 3) := by decide +kernel
theorem dJ3_checkFromToIndex_8c36e_4 : decode cJ3_checkFromToIndex_8c36e 4 = .ok (.iload_n 0, 1) := by decide +kernel
theorem dJ3_checkFromToIndex_8c36e_5 : decode cJ3_checkFromToIndex_8c36e 5 = .ok (.iload_n 1, 1) := by decide +kernel
theorem dJ3_checkFromToIndex_8c36e_6 : decode cJ3_checkFromToIndex_8c36e 6 = .ok (.if_icmp .gt 8, 3) := by decide +kernel
theorem dJ3_checkFromToIndex_8c36e_9 : decode cJ3_checkFromToIndex_8c36e 9 = .ok (.iload_n 1, 1) := by decide +kernel
theorem dJ3_checkFromToIndex_8c36e_10 : decode cJ3_checkFromToIndex_8c36e 10 = .ok (.iload_n 2, 1) := by decide +kernel
theorem dJ3_checkFromToIndex_8c36e_11 : decode cJ3_checkFromToIndex_8c36e 11 = .ok (.if_icmp .le 11, 3) := by decide +kernel
theorem dJ3_checkFromToIndex_8c36e_14 : decode cJ3_checkFromToIndex_8c36e 14 = .ok (.aload_n 3, 1) := by decide +kernel
theorem dJ3_checkFromToIndex_8c36e_15 : decode cJ3_checkFromToIndex_8c36e 15 = .ok (.iload_n 0, 1) := by decide +kernel
theorem dJ3_checkFromToIndex_8c36e_16 : decode cJ3_checkFromToIndex_8c36e 16 = .ok (.iload_n 1, 1) := by decide +kernel
theorem dJ3_checkFromToIndex_8c36e_17 : decode cJ3_checkFromToIndex_8c36e 17 = .ok (.iload_n 2, 1) := by decide +kernel
theorem dJ3_checkFromToIndex_8c36e_18 : decode cJ3_checkFromToIndex_8c36e 18 = .ok (.invokestatic 99, 3) := by decide +kernel
theorem dJ3_checkFromToIndex_8c36e_21 : decode cJ3_checkFromToIndex_8c36e 21 = .ok (.athrow, 1) := by decide +kernel
theorem dJ3_checkFromToIndex_8c36e_22 : decode cJ3_checkFromToIndex_8c36e 22 = .ok (.iload_n 0, 1) := by decide +kernel
theorem dJ3_checkFromToIndex_8c36e_23 : decode cJ3_checkFromToIndex_8c36e 23 = .ok (.ireturn, 1) := by decide +kernel
end
section
/-! ===== a memory of cells by their own numbers: kinds, lengths, references, ints, longs ===== -/
abbrev Mr : Type := Nat → Nat → Option Nat
abbrev Mi : Type := Nat → Nat → Int32
abbrev Ml : Type := Nat → Nat → Int64
abbrev Mem : Type := (Nat × (Nat → Nat) × (Nat → Nat) × Mr) × Mi × Ml
def mN (M : Mem) : Nat := M.1.1
def mK (M : Mem) (a : Nat) : Nat := M.1.2.1 a
def mG (M : Mem) (a : Nat) : Nat := M.1.2.2.1 a
def mR (M : Mem) (a i : Nat) : Option Nat := M.1.2.2.2 a i
def mI (M : Mem) (a i : Nat) : Int32 := M.2.1 a i
def mL (M : Mem) (a i : Nat) : Int64 := M.2.2 a i
def up2 {α : Type} (f : Nat → Nat → α) (a i : Nat) (x : α) : Nat → Nat → α := fun b j => if b = a ∧ j = i then x else f b j
def stI (M : Mem) (a i : Nat) (x : Int32) : Mem := (M.1, up2 M.2.1 a i x, M.2.2)
def stL (M : Mem) (a i : Nat) (x : Int64) : Mem := (M.1, M.2.1, up2 M.2.2 a i x)
def stR (M : Mem) (a i : Nat) (r : Option Nat) : Mem := ((M.1.1, M.1.2.1, M.1.2.2.1, up2 M.1.2.2.2 a i r), M.2.1, M.2.2)
/-- n places of a from sp on come to b from dp on -/
def cpI (M : Mem) (a b sp dp n : Nat) : Mem := (M.1, (fun c j => if c = b ∧ dp ≤ j ∧ j < dp + n then M.2.1 a (sp + (j - dp)) else M.2.1 c j), M.2.2)
def cpL (M : Mem) (a b sp dp n : Nat) : Mem := (M.1, M.2.1, fun c j => if c = b ∧ dp ≤ j ∧ j < dp + n then M.2.2 a (sp + (j - dp)) else M.2.2 c j)
/-- a new cell, of a kind and a length, all 0 -/
def alc (M : Mem) (k n : Nat) : Mem := ((M.1.1 + 1, va_up M.1.2.1 M.1.1 k, va_up M.1.2.2.1 M.1.1 n, va_up M.1.2.2.2 M.1.1 (fun _ => none)), va_up M.2.1 M.1.1 (fun _ => 0), va_up M.2.2 M.1.1 (fun _ => 0))
section MEM
variable (M : Mem) (a b i j k n sp dp : Nat) (x : Int32) (y : Int64) (r : Option Nat)
theorem mN_stI : mN (stI M a i x) = mN M := rfl
theorem mN_stL : mN (stL M a i y) = mN M := rfl
theorem mN_stR : mN (stR M a i r) = mN M := rfl
theorem mN_cpI : mN (cpI M a b sp dp n) = mN M := rfl
theorem mN_cpL : mN (cpL M a b sp dp n) = mN M := rfl
theorem mN_alc : mN (alc M k n) = mN M + 1 := rfl
theorem mK_stI : mK (stI M a i x) b = mK M b := rfl
theorem mK_stL : mK (stL M a i y) b = mK M b := rfl
theorem mK_stR : mK (stR M a i r) b = mK M b := rfl
theorem mK_cpI : mK (cpI M a b sp dp n) k = mK M k := rfl
theorem mK_cpL : mK (cpL M a b sp dp n) k = mK M k := rfl
theorem mK_alc : mK (alc M k n) b = if b = mN M then k else mK M b := rfl
theorem mG_stI : mG (stI M a i x) b = mG M b := rfl
theorem mG_stL : mG (stL M a i y) b = mG M b := rfl
theorem mG_stR : mG (stR M a i r) b = mG M b := rfl
theorem mG_cpI : mG (cpI M a b sp dp n) k = mG M k := rfl
theorem mG_cpL : mG (cpL M a b sp dp n) k = mG M k := rfl
theorem mG_alc : mG (alc M k n) b = if b = mN M then n else mG M b := rfl
theorem mR_stI : mR (stI M a i x) b j = mR M b j := rfl
theorem mR_stL : mR (stL M a i y) b j = mR M b j := rfl
theorem mR_stR : mR (stR M a i r) b j = if b = a ∧ j = i then r else mR M b j := rfl
theorem mR_cpI : mR (cpI M a b sp dp n) k j = mR M k j := rfl
theorem mR_cpL : mR (cpL M a b sp dp n) k j = mR M k j := rfl
theorem mR_alc : mR (alc M k n) b j = if b = mN M then none else mR M b j := by
  by_cases h : b = M.1.1 <;> simp [mR, alc, mN, va_up, h]
theorem mI_stI : mI (stI M a i x) b j = if b = a ∧ j = i then x else mI M b j := rfl
theorem mI_stL : mI (stL M a i y) b j = mI M b j := rfl
theorem mI_stR : mI (stR M a i r) b j = mI M b j := rfl
theorem mI_cpI : mI (cpI M a b sp dp n) k j = if k = b ∧ dp ≤ j ∧ j < dp + n then mI M a (sp + (j - dp)) else mI M k j := rfl
theorem mI_cpL : mI (cpL M a b sp dp n) k j = mI M k j := rfl
theorem mI_alc : mI (alc M k n) b j = if b = mN M then 0 else mI M b j := by
  by_cases h : b = M.1.1 <;> simp [mI, alc, mN, va_up, h]
theorem mL_stI : mL (stI M a i x) b j = mL M b j := rfl
theorem mL_stL : mL (stL M a i y) b j = if b = a ∧ j = i then y else mL M b j := rfl
theorem mL_stR : mL (stR M a i r) b j = mL M b j := rfl
theorem mL_cpI : mL (cpI M a b sp dp n) k j = mL M k j := rfl
theorem mL_cpL : mL (cpL M a b sp dp n) k j = if k = b ∧ dp ≤ j ∧ j < dp + n then mL M a (sp + (j - dp)) else mL M k j := rfl
theorem mL_alc : mL (alc M k n) b j = if b = mN M then 0 else mL M b j := by
  by_cases h : b = M.1.1 <;> simp [mL, alc, mN, va_up, h]
end MEM
/-! ===== the memory's cells as the kit's entries ===== -/
/-- the fields of each class: true where a field is a reference -/
def fk (c : Nat) : List Bool := match c with
  | 1 => [false, false, false, true]
  | 3 => [true, true, false, true, false, true, true, true, true, true, true]
  | 5 => [false, true, false]
  | 7 => [true, false, false, true, false, false, false]
  | 11 => [true, true, true, true, true, false, true, true, true, true, true, false, true, false, true, true, true, true]
  | 12 => [true, false, true, true, true, true, true, false, false, true, false, false, false, false, false, false, true, true, true, true, true, true, false, true, false, true, true, true, false, true, true, false, true, true, false, true, false, true, true, true, true, true, true, true]
  | _ => []
def fv (ad : Nat → Nat) (M : Mem) (k i : Nat) (r : Bool) : Value := if r = true then va_rf ((mR M k i).map ad) else .int (mI M k i)
def flds (ad : Nat → Nat) (M : Mem) (k : Nat) (bs : List Bool) : List Value := (List.range bs.length).map (fun i => fv ad M k i (bs.getD i false))
def ent (cy : Nat → ClassId) (ad : Nat → Nat) (M : Mem) (k : Nat) : va_E :=
  if mK M k < 13 then .inr (mK M k, flds ad M k (fk (mK M k)))
  else if mK M k = 15 then .inl (cy 15, (mG M k, .inr (.inl (mL M k))))
  else if mK M k = 17 then .inl (cy 17, (mG M k, .inr (.inr (.inr (.inr (fun j => (mR M k j).map ad))))))
  else .inl (cy (mK M k), (mG M k, .inl (mI M k)))
def wl (cy : Nat → ClassId) (ad : Nat → Nat) (M : Mem) : va_W := (List.range (mN M)).map (fun k => (ad k, ent cy ad M k))
def Ad (ad : Nat → Nat) : Nat → Prop := fun q => ∃ k, q = ad k
theorem wl_get {cy : Nat → ClassId} {ad : Nat → Nat} {M : Mem} {k : Nat} (h : k < mN M) : (wl cy ad M)[k]? = some (ad k, ent cy ad M k) := by
  simp [wl, h]
theorem wl_len {cy : Nat → ClassId} {ad : Nat → Nat} {M : Mem} : (wl cy ad M).length = mN M := by simp [wl]
theorem wl_in {cy : Nat → ClassId} {ad : Nat → Nat} {M : Mem} {k : Nat} {q : Nat × va_E} (h : (wl cy ad M)[k]? = some q) : k < mN M ∧ q = (ad k, ent cy ad M k) := by
  have hl : k < mN M := by
    have := (List.getElem?_eq_some_iff.mp h).1
    rwa [wl_len] at this
  rw [wl_get hl] at h
  exact ⟨hl, (Option.some.inj h).symm⟩
theorem wl_D {cy : Nat → ClassId} {ad : Nat → Nat} {M : Mem} (hi : ∀ i j, ad i = ad j → i = j) : va_D (Ad ad) (wl cy ad M) := by
  refine ⟨fun i j p q hp hq e => ?_, fun k q hk => ?_⟩
  · obtain ⟨-, rfl⟩ := wl_in hp
    obtain ⟨-, rfl⟩ := wl_in hq
    exact hi _ _ e
  · obtain ⟨-, rfl⟩ := wl_in hk
    exact ⟨k, rfl⟩
theorem wl_set {cy : Nat → ClassId} {ad : Nat → Nat} {M M' : Mem} {k : Nat} {e : va_E} (hn : mN M' = mN M) (ho : ∀ j, j ≠ k → ent cy ad M' j = ent cy ad M j) (he : ent cy ad M' k = e) : (wl cy ad M).set k (ad k, e) = wl cy ad M' := by
  apply List.ext_getElem?
  intro j
  by_cases hj : j = k
  · subst hj
    by_cases hl : j < mN M
    · rw [List.getElem?_set_self (by rw [wl_len]; exact hl), wl_get (by rw [hn]; exact hl), he]
    · rw [List.getElem?_eq_none (by rw [List.length_set, wl_len]; omega), List.getElem?_eq_none (by rw [wl_len, hn]; omega)]
  · rw [List.getElem?_set_ne (Ne.symm hj)]
    by_cases hl : j < mN M
    · rw [wl_get hl, wl_get (by rw [hn]; exact hl), ho j hj]
    · rw [List.getElem?_eq_none (by rw [wl_len]; omega), List.getElem?_eq_none (by rw [wl_len, hn]; omega)]
theorem wl_push {cy : Nat → ClassId} {ad : Nat → Nat} {M M' : Mem} {e : va_E} (hn : mN M' = mN M + 1) (ho : ∀ j, j < mN M → ent cy ad M' j = ent cy ad M j) (he : ent cy ad M' (mN M) = e) : wl cy ad M ++ [(ad (mN M), e)] = wl cy ad M' := by
  unfold wl
  rw [hn, List.range_succ, List.map_append, List.map_singleton, he]
  congr 1
  apply List.map_congr_left
  intro j hj
  rw [ho j (List.mem_range.mp hj)]
theorem ent_obj {cy : Nat → ClassId} {ad : Nat → Nat} {M : Mem} {k c : Nat} (h : mK M k = c) (hc : c < 13) : ent cy ad M k = .inr (c, flds ad M k (fk c)) := by
  subst h
  simp [ent, hc]
theorem ent_ints {cy : Nat → ClassId} {ad : Nat → Nat} {M : Mem} {k c : Nat} (h : mK M k = c) (hc : c = 13 ∨ c = 14 ∨ c = 16) : ent cy ad M k = .inl (cy c, (mG M k, .inl (mI M k))) := by
  subst h
  unfold ent
  rw [if_neg (by omega), if_neg (by omega), if_neg (by omega)]
theorem ent_longs {cy : Nat → ClassId} {ad : Nat → Nat} {M : Mem} {k : Nat} (h : mK M k = 15) : ent cy ad M k = .inl (cy 15, (mG M k, .inr (.inl (mL M k)))) := by
  unfold ent
  rw [if_neg (by omega), if_pos h]
theorem ent_refs {cy : Nat → ClassId} {ad : Nat → Nat} {M : Mem} {k : Nat} (h : mK M k = 17) : ent cy ad M k = .inl (cy 17, (mG M k, .inr (.inr (.inr (.inr (fun j => (mR M k j).map ad)))))) := by
  unfold ent
  rw [if_neg (by omega), if_neg (by omega), if_pos h]
/-- an entry depends on its own cell alone -/
theorem ent_same {cy : Nat → ClassId} {ad : Nat → Nat} {M M' : Mem} {k : Nat} (h1 : mK M' k = mK M k) (h2 : mG M' k = mG M k) (h3 : ∀ j, mR M' k j = mR M k j) (h4 : ∀ j, mI M' k j = mI M k j) (h5 : ∀ j, mL M' k j = mL M k j) : ent cy ad M' k = ent cy ad M k := by
  have e3 : mR M' k = mR M k := funext h3
  have e4 : mI M' k = mI M k := funext h4
  have e5 : mL M' k = mL M k := funext h5
  have ef : ∀ bs, flds ad M' k bs = flds ad M k bs := fun bs => by
    unfold flds fv
    rw [e3, e4]
  unfold ent
  rw [h1, h2, ef, e4, e5]
  simp only [h3]
theorem flds_at {ad : Nat → Nat} {M : Mem} {k i : Nat} {bs : List Bool} {r : Bool} (h : bs[i]? = some r) : (flds ad M k bs)[i]? = some (fv ad M k i r) := by
  obtain ⟨hl, rfl⟩ := List.getElem?_eq_some_iff.mp h
  simp [flds, hl]
theorem flds_len {ad : Nat → Nat} {M : Mem} {k : Nat} {bs : List Bool} : (flds ad M k bs).length = bs.length := by simp [flds]
theorem flds_set {ad : Nat → Nat} {M M' : Mem} {k i : Nat} {bs : List Bool} {r : Bool} (h : bs[i]? = some r) (ho : ∀ j, j ≠ i → mR M' k j = mR M k j ∧ mI M' k j = mI M k j) : (flds ad M k bs).set i (fv ad M' k i r) = flds ad M' k bs := by
  have hl := (List.getElem?_eq_some_iff.mp h).1
  apply List.ext_getElem?
  intro j
  by_cases hj : j = i
  · subst hj
    rw [List.getElem?_set_self (by rw [flds_len]; exact hl), flds_at h]
  · rw [List.getElem?_set_ne (Ne.symm hj)]
    by_cases hjl : j < bs.length
    · have hb : bs[j]? = some bs[j] := List.getElem?_eq_getElem hjl
      rw [flds_at hb, flds_at hb]
      unfold fv
      rw [(ho j hj).1, (ho j hj).2]
    · rw [List.getElem?_eq_none (by rw [flds_len]; omega), List.getElem?_eq_none (by rw [flds_len]; omega)]
end
section
/-! ===== the words that are good to hand on ===== -/
def BIG : List Cond := lw_tbl.filter goodWord
theorem BIG_of {w : Cond} (i : Nat) (h : lw_tbl[i]? = some w) (hg : goodWord w = true) : w ∈ BIG := List.mem_filter.mpr ⟨List.mem_of_getElem? h, hg⟩
theorem BIG_good : GoodIn BIG BIG := fun w h => ⟨h, good_of_word (List.mem_filter.mp h).2⟩
theorem BIG_pos {ws : List Cond} (ps : List Nat) (h : ps.filterMap (fun i => lw_tbl[i]?) = ws) (hg : ws.all goodWord = true) : ∀ w ∈ ws, w ∈ BIG := by
  intro w hw
  refine List.mem_filter.mpr ⟨?_, List.all_eq_true.mp hg w hw⟩
  rw [← h] at hw
  obtain ⟨i, -, hi⟩ := List.mem_filterMap.mp hw
  exact List.mem_of_getElem? hi
/-! ===== what lies outside: strings, the static row, links of nest mates ===== -/
abbrev Fx : Type := Launch × va_G × (Nat → ClassId) × (Nat → Nat)
def tv (ad ex : Nat → Nat) (v : Value) : Value := match v with
  | .ref k => .ref (ad k)
  | .retAddr j => .ref (ex j)
  | v => v
theorem tv_cat (ad ex : Nat → Nat) (v : Value) : (tv ad ex v).category = v.category := by cases v <;> rfl
def tysF (cy : Nat → ClassId) : List (ClassId × FieldType) := [(cy 13, .byte), (cy 14, .int), (cy 15, .long), (cy 16, .boolean), (cy 17, .object "CarpetsLaw$Walker")]
def xNest : List (String × Nat × MethodName × String) := [("CarpetsLaw", 41, ⟨"CarpetsLaw$Statute", "<init>", "()V"⟩, "CarpetsLaw"), ("CarpetsLaw", 48, ⟨"CarpetsLaw$Deed", "<init>", "()V"⟩, "CarpetsLaw"), ("CarpetsLaw", 66, ⟨"CarpetsLaw$Walker", "<init>", "()V"⟩, "CarpetsLaw"), ("CarpetsLaw", 69, ⟨"CarpetsLaw$Train", "<init>", "()V"⟩, "CarpetsLaw"), ("CarpetsLaw$Train", 1, ⟨"CarpetsLaw$Walker", "<init>", "()V"⟩, "CarpetsLaw"), ("CarpetsLaw", 72, ⟨"CarpetsLaw$Socks", "<init>", "()V"⟩, "CarpetsLaw"), ("CarpetsLaw$Socks", 1, ⟨"CarpetsLaw$Walker", "<init>", "()V"⟩, "CarpetsLaw"), ("CarpetsLaw", 75, ⟨"CarpetsLaw$Kneeler", "<init>", "()V"⟩, "CarpetsLaw"), ("CarpetsLaw$Kneeler", 1, ⟨"CarpetsLaw$Walker", "<init>", "()V"⟩, "CarpetsLaw"), ("CarpetsLaw", 78, ⟨"CarpetsLaw$Guard", "<init>", "()V"⟩, "CarpetsLaw"), ("CarpetsLaw$Guard", 1, ⟨"CarpetsLaw$Train", "<init>", "()V"⟩, "CarpetsLaw"), ("CarpetsLaw", 81, ⟨"CarpetsLaw$Child", "<init>", "()V"⟩, "CarpetsLaw"), ("CarpetsLaw$Child", 1, ⟨"CarpetsLaw$Socks", "<init>", "()V"⟩, "CarpetsLaw"), ("CarpetsLaw", 84, ⟨"CarpetsLaw$Told", "<init>", "()V"⟩, "CarpetsLaw"), ("CarpetsLaw$Told", 3, ⟨"CarpetsLaw$Kneeler", "<init>", "()V"⟩, "CarpetsLaw"), ("CarpetsLaw$Hall", 87, ⟨"CarpetsLaw", "nextTo", "(II)I"⟩, "CarpetsLaw"), ("CarpetsLaw$Child", 17, ⟨"CarpetsLaw", "nextTo", "(II)I"⟩, "CarpetsLaw")]
def xCast : List String := ["CarpetsLaw$Child", "CarpetsLaw$Guard", "CarpetsLaw$Kneeler", "CarpetsLaw$Socks", "CarpetsLaw$Told", "CarpetsLaw$Train"]
def xNot : List String := ["CarpetsLaw$Child", "CarpetsLaw$Guard", "CarpetsLaw$Kneeler", "CarpetsLaw$Socks", "CarpetsLaw$Train", "CarpetsLaw$Walker"]
def xRef : List (String × Nat × String × Nat) := [("CarpetsLaw$Statute", 52, "draw ", 0), ("CarpetsLaw$Statute", 58, "ba", 1), ("CarpetsLaw$Statute", 78, "ld ", 2), ("CarpetsLaw$Statute", 63, "r ", 3), ("CarpetsLaw$Statute", 68, " ", 4), ("CarpetsLaw$Statute", 88, "pkvcwh", 5), ("CarpetsLaw$Statute", 94, "<=>", 6), ("CarpetsLaw$Statute", 86, ")", 7), ("CarpetsLawModel", 192, "draw ", 0), ("CarpetsLawModel", 198, "bar ", 8), ("CarpetsLawModel", 200, "bald ", 9), ("CarpetsLawModel", 161, "pkvcwh", 5), ("CarpetsLawModel", 166, "<=>", 6)]
def xLen : List Nat := [5, 2, 3, 2, 1, 6, 3, 1, 4, 5]
def xByt : List (List Int32) := [[100, 114, 97, 119, 32], [98, 97], [108, 100, 32], [114, 32], [32], [112, 107, 118, 99, 119, 104], [60, 61, 62], [41], [98, 97, 114, 32], [98, 97, 108, 100, 32]]
def xAbove : List Int32 := [-1, 0, 0, 0, 1, 2, 3]
def Ext (ex : Nat → Nat) (A : Nat → Prop) (U : State) (H : Heap) : Prop :=
  (∀ q ∈ xNest, va_Nw (.methodLinkNest q.1 q.2.1 q.2.2.1 q.2.2.2) U) ∧ (∀ C ∈ xCast, va_Nw (.castable C "CarpetsLaw$Walker") U) ∧ (∀ C ∈ xNot, va_Nc C "CarpetsLaw$Told" U) ∧ va_AO "CarpetsLaw$Walker" U ∧
  vk_S 10 xLen xByt (fun j => ex j) (fun j => ex (10 + j)) A U H ∧ (∀ q ∈ xRef, vk_R q.1 q.2.1 q.2.2.1 (ex q.2.2.2) U) ∧ va_Z "java/lang/String" "COMPACT_STRINGS" "Z" (.int 1) A U H ∧
  va_Z "CarpetsLaw" "KIND_ABOVE" "[I" (.ref (ex 20)) A U H ∧ va_T .int (ex 20) 7 (fun j => .int (xAbove.getD j 0)) A U H ∧ (va_Z "jdk/internal/util/Preconditions" "SIOOBE_FORMATTER" "Ljava/util/function/BiFunction;" .null A U H ∨ va_Z "jdk/internal/util/Preconditions" "SIOOBE_FORMATTER" "Ljava/util/function/BiFunction;" (.ref (ex 21)) A U H)
theorem Ext.go {ex : Nat → Nat} {A : Nat → Prop} {s U : State} {H H1 : Heap} (h : Ext ex A s H) (hW : s.WarmedH U.vm) (hq : ∀ a : Nat, a < H.size → ¬ A a → H1[a]? = H[a]?) : Ext ex A U H1 := by
  obtain ⟨h1, h2, h3, h4, h5, h6, h7, h8, h9, h10⟩ := h
  refine ⟨fun q hq => (h1 q hq).warmM hW, fun C hC => ?_, fun C hC => (h3 C hC).moved hW.alike, h4.moved hW.alike, (h5.kept hq).moved hW.alike, fun q hq => (h6 q hq).warm hW, (h7.kept hq).moved hW.alike, (h8.kept hq).moved hW.alike, (h9.kept hq).moved hW.alike, h10.elim (fun h => Or.inl ((h.kept hq).moved hW.alike)) (fun h => Or.inr ((h.kept hq).moved hW.alike))⟩
  exact (h2 C hC).warmC hW
theorem Ext.narrow {ex : Nat → Nat} {A B : Nat → Prop} {U : State} {H : Heap} (h : Ext ex A U H) (hAB : ∀ q, B q → A q) : Ext ex B U H := by
  obtain ⟨h1, h2, h3, h4, h5, h6, h7, h8, h9, h10⟩ := h
  exact ⟨h1, h2, h3, h4, h5.narrow hAB, h6, h7.narrow hAB, h8.narrow hAB, h9.narrow hAB, h10.elim (fun h => Or.inl (h.narrow hAB)) (fun h => Or.inr (h.narrow hAB))⟩
/-! ===== contracts ===== -/
def rk (r mc ms : Nat) : Room := { frames := r, cells := mc, slots := ms, locals := 40 * r }
/-- what a method finds -/
def Px (fx : Fx) (ad : Nat → Nat) (al : Bool) (M : Mem) (U : State) : Prop :=
  va_P fx.2.1 vwCl (wl fx.2.2.1 ad M) U.heap ∧ va_K fx.2.1 vwCl (tysF fx.2.2.1) U ∧ (al = true → ∀ j, ad (mN M + j) = U.heap.size + j) ∧ Ext fx.2.2.2 (Ad ad) U U.heap
/-- what it leaves -/
def Qx (fx : Fx) (ad : Nat → Nat) (al : Bool) (rv : Option Value) (N : Mem) : Array Value → State → Outcome → State → Prop := fun _ st oc t =>
  (oc = .returned (rv.map (tv ad fx.2.2.2)) ∧ va_P fx.2.1 vwCl (wl fx.2.2.1 ad N) t.heap ∧ (al = true → ∀ j, ad (mN N + j) = t.heap.size + j)) ∧ va_F (Ad ad) st t
def Ct (fx : Fx) (y : MethodName) (cc : ByteArray) (maxL : Nat) (rt : Option FieldType) (r mc ms : Nat) (al : Bool) (av : List Value) (M : Mem) (rv : Option Value) (N : Mem) : Prop :=
  ∀ ad : Nat → Nat, (∀ i j, ad i = ad j → i = j) → Met fx.1 y (.code y cc maxL rt :: BIG) (rk r mc ms) (va_Pc (av.map (tv ad fx.2.2.2)) (Px fx ad al M)) (Qx fx ad al rv N) mc ms (Ad ad)
/-! ===== the judgement: from here on the machine comes to the method's end ===== -/
abbrev Zx : Type := Program × Launch × Env × Room × State × MethodId × Array Value × List Frame × Method × Code × Fx × (Nat → Nat) × Bool × (State → Prop)
abbrev Zx.p (z : Zx) : Program := z.1
abbrev Zx.l (z : Zx) : Launch := z.2.1
abbrev Zx.e (z : Zx) : Env := z.2.2.1
abbrev Zx.R (z : Zx) : Room := z.2.2.2.1
abbrev Zx.s (z : Zx) : State := z.2.2.2.2.1
abbrev Zx.m (z : Zx) : MethodId := z.2.2.2.2.2.1
abbrev Zx.a (z : Zx) : Array Value := z.2.2.2.2.2.2.1
abbrev Zx.b (z : Zx) : List Frame := z.2.2.2.2.2.2.2.1
abbrev Zx.mt (z : Zx) : Method := z.2.2.2.2.2.2.2.2.1
abbrev Zx.c (z : Zx) : Code := z.2.2.2.2.2.2.2.2.2.1
abbrev Zx.fx (z : Zx) : Fx := z.2.2.2.2.2.2.2.2.2.2.1
abbrev Zx.ad (z : Zx) : Nat → Nat := z.2.2.2.2.2.2.2.2.2.2.2.1
abbrev Zx.al (z : Zx) : Bool := z.2.2.2.2.2.2.2.2.2.2.2.2.1
abbrev Zx.Q (z : Zx) : State → Prop := z.2.2.2.2.2.2.2.2.2.2.2.2.2
abbrev Zx.D (z : Zx) : va_G := z.fx.2.1
abbrev Zx.cy (z : Zx) : Nat → ClassId := z.fx.2.2.1
abbrev Zx.ex (z : Zx) : Nat → Nat := z.fx.2.2.2
/-- the locals: by their places; none where nothing is said -/
def lvh (z : Zx) (ls : Array Slot) (lv : List (Option Value)) : Prop := ls.size = lv.length ∧ lv_wf ls ∧ ∀ (i : Nat) (v : Value), lv[i]? = some (some v) → ls[i]? = some (.val (tv z.ad z.ex v))
def Wd (z : Zx) (M : Mem) (H : Heap) (locs : List Loc) : Prop := va_P z.D vwCl (wl z.cy z.ad M) H ∧ va_S (Ad z.ad) z.s.heap H locs ∧ (z.al = true → ∀ j, z.ad (mN M + j) = H.size + j)
def V (z : Zx) (pc : Nat) (lv : List (Option Value)) (st : List Value) (M : Mem) (nc ns : Nat) : Prop :=
  ∀ (H : Heap) (locs : List Loc) (ls : Array Slot), Wd z M H locs → lvh z ls lv → W z.p z.l z.e z.R z.s z.m z.a z.b z.mt z.c H locs nc ns z.Q (F0 z.m pc ls (st.map (tv z.ad z.ex)))
def Zok (z : Zx) (fx : Fx) (al : Bool) (own nm : String) (cc : ByteArray) (rt : Option FieldType) (nL r mc ms : Nat) (rv : Option Value) (N : Mem) : Prop :=
  z.p.tables.exec = Jvm.exec ∧ z.c.code = cc ∧ z.c.maxLocals = nL ∧ z.s.vm.findClass own = some z.m.cls ∧ (∀ w ∈ BIG, w.before z.a z.s = true) ∧ va_K z.D vwCl (tysF z.cy) z.s ∧ (∀ i j, z.ad i = z.ad j → i = j) ∧ z.mt.locks = false ∧ z.mt.sig.returnType = rt ∧ z.R = rk r mc ms ∧ Ext z.ex (Ad z.ad) z.s z.s.heap ∧ z.l = z.fx.1 ∧ z.Q = MQ z.b (Qx z.fx z.ad z.al rv N) z.a z.s mc ms (Ad z.ad) ∧ z.mt.name = nm ∧ z.fx = fx ∧ z.al = al
section ZOK
variable {z : Zx} {fx : Fx} {al : Bool} {own nm : String} {cc : ByteArray} {rt : Option FieldType} {nL r mc ms : Nat} {rv : Option Value} {N : Mem}
theorem Zok.exec (h : Zok z fx al own nm cc rt nL r mc ms rv N) : z.p.tables.exec = Jvm.exec := h.1
theorem Zok.code (h : Zok z fx al own nm cc rt nL r mc ms rv N) : z.c.code = cc := h.2.1
theorem Zok.nl (h : Zok z fx al own nm cc rt nL r mc ms rv N) : z.c.maxLocals = nL := h.2.2.1
theorem Zok.hown (h : Zok z fx al own nm cc rt nL r mc ms rv N) : z.s.vm.findClass own = some z.m.cls := h.2.2.2.1
theorem Zok.ts (h : Zok z fx al own nm cc rt nL r mc ms rv N) : ∀ w ∈ BIG, w.before z.a z.s = true := h.2.2.2.2.1
theorem Zok.K (h : Zok z fx al own nm cc rt nL r mc ms rv N) : va_K z.D vwCl (tysF z.cy) z.s := h.2.2.2.2.2.1
theorem Zok.inj (h : Zok z fx al own nm cc rt nL r mc ms rv N) : ∀ i j, z.ad i = z.ad j → i = j := h.2.2.2.2.2.2.1
theorem Zok.locks (h : Zok z fx al own nm cc rt nL r mc ms rv N) : z.mt.locks = false := h.2.2.2.2.2.2.2.1
theorem Zok.ret (h : Zok z fx al own nm cc rt nL r mc ms rv N) : z.mt.sig.returnType = rt := h.2.2.2.2.2.2.2.2.1
theorem Zok.room (h : Zok z fx al own nm cc rt nL r mc ms rv N) : z.R = rk r mc ms := h.2.2.2.2.2.2.2.2.2.1
theorem Zok.ext (h : Zok z fx al own nm cc rt nL r mc ms rv N) : Ext z.ex (Ad z.ad) z.s z.s.heap := h.2.2.2.2.2.2.2.2.2.2.1
theorem Zok.el (h : Zok z fx al own nm cc rt nL r mc ms rv N) : z.l = z.fx.1 := h.2.2.2.2.2.2.2.2.2.2.2.1
theorem Zok.eQ (h : Zok z fx al own nm cc rt nL r mc ms rv N) : z.Q = MQ z.b (Qx z.fx z.ad z.al rv N) z.a z.s mc ms (Ad z.ad) := h.2.2.2.2.2.2.2.2.2.2.2.2.1
theorem Zok.nam (h : Zok z fx al own nm cc rt nL r mc ms rv N) : z.mt.name = nm := h.2.2.2.2.2.2.2.2.2.2.2.2.2.1
theorem Zok.efx (h : Zok z fx al own nm cc rt nL r mc ms rv N) : z.fx = fx := h.2.2.2.2.2.2.2.2.2.2.2.2.2.2.1
theorem Zok.eal (h : Zok z fx al own nm cc rt nL r mc ms rv N) : z.al = al := h.2.2.2.2.2.2.2.2.2.2.2.2.2.2.2
theorem Zok.D (h : Zok z fx al own nm cc rt nL r mc ms rv N) (M : Mem) : va_D (Ad z.ad) (wl z.cy z.ad M) := wl_D h.inj
end ZOK
/-! ===== locals ===== -/
theorem lvh_at {z : Zx} {ls : Array Slot} {lv : List (Option Value)} (h : lvh z ls lv) {i : Nat} {v : Value} (hv : lv[i]? = some (some v)) : ls[i]? = some (.val (tv z.ad z.ex v)) := h.2.2 i v hv
/-- what is known of the locals as the kit has it -/
def asc (z : Zx) (lv : List (Option Value)) : List (Nat × Value) := (List.range lv.length).filterMap (fun i => match lv[i]? with
  | some (some v) => some (i, tv z.ad z.ex v)
  | _ => none)
theorem asc_mem {z : Zx} {lv : List (Option Value)} {i : Nat} {v : Value} (h : lv[i]? = some (some v)) : (i, tv z.ad z.ex v) ∈ asc z lv := by
  refine List.mem_filterMap.mpr ⟨i, List.mem_range.mpr (List.getElem?_eq_some_iff.mp h).1, ?_⟩
  rw [h]
theorem asc_of {z : Zx} {lv : List (Option Value)} {q : Nat × Value} (h : q ∈ asc z lv) : ∃ v, lv[q.1]? = some (some v) ∧ q.2 = tv z.ad z.ex v := by
  obtain ⟨i, -, hi⟩ := List.mem_filterMap.mp h
  split at hi
  · rename_i v hv
    cases hi
    exact ⟨v, hv, rfl⟩
  · cases hi
theorem lvh_has {z : Zx} {ls : Array Slot} {lv : List (Option Value)} (h : lvh z ls lv) : lv_has ls lv.length (asc z lv) := by
  refine ⟨h.1, h.2.1, fun q hq => ?_⟩
  obtain ⟨v, h1, h2⟩ := asc_of hq
  rw [h2]
  exact h.2.2 _ _ h1
/-- the place ahead isn't a long's -/
def okst (lv : List (Option Value)) (i : Nat) : Bool := match i with
  | 0 => true
  | i + 1 => match lv[i]? with
    | some (some v) => v.category == 1
    | _ => true
theorem lvh_set {z : Zx} {ls ls' : Array Slot} {lv : List (Option Value)} {i : Nat} {v : Value} (h : lvh z ls lv) (hi : i < lv.length) (hk : okst lv i = true) (hs : lv_has ls' lv.length ((i, tv z.ad z.ex v) :: (asc z lv).filter (fun q => !(q.1 == i) && !(q.1 + 1 == i && q.2.category == 2)))) : lvh z ls' (lv.set i (some v)) := by
  refine ⟨by rw [List.length_set]; exact hs.1, hs.2.1, fun j w hj => ?_⟩
  by_cases e : j = i
  · subst e
    rw [List.getElem?_set_self hi] at hj
    cases hj
    exact hs.2.2 _ List.mem_cons_self
  · rw [List.getElem?_set_ne (Ne.symm e)] at hj
    refine hs.2.2 (j, tv z.ad z.ex w) (List.mem_cons_of_mem _ (List.mem_filter.mpr ⟨asc_mem hj, ?_⟩))
    by_cases e2 : j + 1 = i
    · subst e2
      have hc : w.category = 1 := by simpa [okst, hj] using hk
      simp [e, tv_cat, hc]
    · simp [e, e2]
/-- less is known -/
def lvle (lw lv : List (Option Value)) : Prop := match lw, lv with
  | [], [] => True
  | none :: a, _ :: b => lvle a b
  | some v :: a, w :: b => w = some v ∧ lvle a b
  | _, _ => False
theorem lvle_at : ∀ {lw lv : List (Option Value)}, lvle lw lv → lw.length = lv.length ∧ ∀ (i : Nat) (v : Value), lw[i]? = some (some v) → lv[i]? = some (some v)
  | [], [], _ => ⟨rfl, fun _ _ h => h⟩
  | none :: a, w :: b, h => by
    obtain ⟨h1, h2⟩ := lvle_at (lw := a) (lv := b) h
    refine ⟨by simp [h1], fun i v hi => ?_⟩
    cases i with
    | zero => cases hi
    | succ i => exact h2 i v hi
  | some x :: a, w :: b, h => by
    obtain ⟨h1, h2⟩ := lvle_at (lw := a) (lv := b) h.2
    refine ⟨by simp [h1], fun i v hi => ?_⟩
    cases i with
    | zero => rw [h.1]; exact hi
    | succ i => exact h2 i v hi
  | [], _ :: _, h => h.elim
  | none :: _, [], h => h.elim
  | some _ :: _, [], h => h.elim
theorem v_weak {z : Zx} {pc : Nat} {lw lv : List (Option Value)} {st : List Value} {M : Mem} {nc ns : Nat} (h : lvle lw lv) (k : V z pc lw st M nc ns) : V z pc lv st M nc ns := fun H locs ls hw hl =>
  k H locs ls hw ⟨hl.1.trans (lvle_at h).1.symm, hl.2.1, fun i v hi => hl.2.2 i v ((lvle_at h).2 i v hi)⟩
/-- the arguments in their places -/
def lay : List Value → List (Option Value)
  | [] => []
  | v :: vs => if v.category = 2 then some v :: none :: lay vs else some v :: lay vs
theorem lay_mem {ad ex : Nat → Nat} : ∀ (vs : List Value) (o i : Nat) (v : Value), (lay vs)[i]? = some (some v) → (o + i, tv ad ex v) ∈ lv_args o (vs.map (tv ad ex))
  | [], _, _, _, h => by simp [lay] at h
  | w :: vs, o, i, v, h => by
    by_cases hc : w.category = 2
    · rw [lay, if_pos hc] at h
      rw [List.map_cons, lv_args, tv_cat, if_pos hc]
      match i, h with
      | 0, h => cases h; exact List.mem_cons_self
      | 1, h => cases h
      | i + 2, h =>
        have := lay_mem (ad := ad) (ex := ex) vs (o + 2) i v h
        rw [show o + 2 + i = o + (i + 2) by omega] at this
        exact List.mem_cons_of_mem _ this
    · rw [lay, if_neg hc] at h
      rw [List.map_cons, lv_args, tv_cat, if_neg hc]
      match i, h with
      | 0, h => cases h; exact List.mem_cons_self
      | i + 1, h =>
        have := lay_mem (ad := ad) (ex := ex) vs (o + 1) i v h
        rw [show o + 1 + i = o + (i + 1) by omega] at this
        exact List.mem_cons_of_mem _ this
/-! ===== rules, an instruction each ===== -/
section RULES
variable {z : Zx} {fx : Fx} {al : Bool} {own nm : String} {cc : ByteArray} {rt : Option FieldType} {nL r mc ms : Nat} {rv : Option Value} {N : Mem} {pc : Nat} {lv : List (Option Value)} {st : List Value} {M : Mem} {nc ns : Nat}
theorem v_lv {lw : List (Option Value)} (h : lv = lw) (k : V z pc lw st M nc ns) : V z pc lv st M nc ns := h ▸ k
theorem v_mem {M' : Mem} (h : M = M') (k : V z pc lv st M' nc ns) : V z pc lv st M nc ns := h ▸ k
theorem v_iconst (hz : Zok z fx al own nm cc rt nL r mc ms rv N) {n : Int} {v : Int32} (hv : Int32.ofInt n = v) (hd : decode cc pc = .ok (.iconst n, 1)) (k : V z (pc + 1) lv (.int v :: st) M nc ns) : V z pc lv (st) M nc ns := fun H locs ls hw hl => lv_iconst hz.exec hz.code hd hv (k H locs ls hw hl)
theorem v_bipush (hz : Zok z fx al own nm cc rt nL r mc ms rv N) {n : Int} {v : Int32} (hv : (Int8.ofInt n).toInt32 = v) (hd : decode cc pc = .ok (.bipush n, 2)) (k : V z (pc + 2) lv (.int v :: st) M nc ns) : V z pc lv (st) M nc ns := fun H locs ls hw hl => lv_bipush hz.exec hz.code hd hv (k H locs ls hw hl)
theorem v_sipush (hz : Zok z fx al own nm cc rt nL r mc ms rv N) {n : Int} {v : Int32} (hv : (Int16.ofInt n).toInt32 = v) (hd : decode cc pc = .ok (.sipush n, 3)) (k : V z (pc + 3) lv (.int v :: st) M nc ns) : V z pc lv (st) M nc ns := fun H locs ls hw hl => lv_sipush hz.exec hz.code hd hv (k H locs ls hw hl)
theorem v_lconst (hz : Zok z fx al own nm cc rt nL r mc ms rv N) {n : Fin 2} {v : Int64} (hv : Int64.ofNat (n : Nat) = v) (hd : decode cc pc = .ok (.lconst n, 1)) (k : V z (pc + 1) lv (.long v :: st) M nc ns) : V z pc lv (st) M nc ns := fun H locs ls hw hl => lv_lconst hz.exec hz.code hd hv (k H locs ls hw hl)
theorem v_iload_n (hz : Zok z fx al own nm cc rt nL r mc ms rv N) {k : Fin 4} {i : Nat} {x : Int32} (hi : (k : Nat) = i) (hv : lv[i]? = some (some (.int x))) (hd : decode cc pc = .ok (.iload_n k, 1)) (k : V z (pc + 1) lv (.int x :: st) M nc ns) : V z pc lv (st) M nc ns := fun H locs ls hw hl => lv_iload_n hz.exec hz.code hd hi (lvh_at hl hv) (k H locs ls hw hl)
theorem v_iload (hz : Zok z fx al own nm cc rt nL r mc ms rv N) {i : Nat} {x : Int32} (hv : lv[i]? = some (some (.int x))) (hd : decode cc pc = .ok (.iload i, 2)) (k : V z (pc + 2) lv (.int x :: st) M nc ns) : V z pc lv (st) M nc ns := fun H locs ls hw hl => lv_iload hz.exec hz.code hd (lvh_at hl hv) (k H locs ls hw hl)
theorem v_lload_n (hz : Zok z fx al own nm cc rt nL r mc ms rv N) {k : Fin 4} {i : Nat} {x : Int64} (hi : (k : Nat) = i) (hv : lv[i]? = some (some (.long x))) (hd : decode cc pc = .ok (.lload_n k, 1)) (k : V z (pc + 1) lv (.long x :: st) M nc ns) : V z pc lv (st) M nc ns := fun H locs ls hw hl => lv_lload_n hz.exec hz.code hd hi (lvh_at hl hv) (k H locs ls hw hl)
theorem v_lload (hz : Zok z fx al own nm cc rt nL r mc ms rv N) {i : Nat} {x : Int64} (hv : lv[i]? = some (some (.long x))) (hd : decode cc pc = .ok (.lload i, 2)) (k : V z (pc + 2) lv (.long x :: st) M nc ns) : V z pc lv (st) M nc ns := fun H locs ls hw hl => lv_lload hz.exec hz.code hd (lvh_at hl hv) (k H locs ls hw hl)
theorem v_aload_n (hz : Zok z fx al own nm cc rt nL r mc ms rv N) {k : Fin 4} {i : Nat} {x : Nat} (hi : (k : Nat) = i) (hv : lv[i]? = some (some (.ref x))) (hd : decode cc pc = .ok (.aload_n k, 1)) (k : V z (pc + 1) lv (.ref x :: st) M nc ns) : V z pc lv (st) M nc ns := fun H locs ls hw hl => lv_aload_n hz.exec hz.code hd hi (lvh_at hl hv) (k H locs ls hw hl)
theorem v_aload (hz : Zok z fx al own nm cc rt nL r mc ms rv N) {i : Nat} {x : Nat} (hv : lv[i]? = some (some (.ref x))) (hd : decode cc pc = .ok (.aload i, 2)) (k : V z (pc + 2) lv (.ref x :: st) M nc ns) : V z pc lv (st) M nc ns := fun H locs ls hw hl => lv_aload hz.exec hz.code hd (lvh_at hl hv) (k H locs ls hw hl)
theorem v_xload_n (hz : Zok z fx al own nm cc rt nL r mc ms rv N) {k : Fin 4} {i : Nat} {x : Nat} (hi : (k : Nat) = i) (hv : lv[i]? = some (some (.retAddr x))) (hd : decode cc pc = .ok (.aload_n k, 1)) (k : V z (pc + 1) lv (.retAddr x :: st) M nc ns) : V z pc lv (st) M nc ns := fun H locs ls hw hl => lv_aload_n hz.exec hz.code hd hi (lvh_at hl hv) (k H locs ls hw hl)
theorem v_istore_n (hz : Zok z fx al own nm cc rt nL r mc ms rv N) {k : Fin 4} {i : Nat} {x : Int32} {lw : List (Option Value)} (hi : (k : Nat) = i) (hn : i < lv.length) (hk : okst lv i = true) (hs : lv.set i (some (.int x)) = lw) (hd : decode cc pc = .ok (.istore_n k, 1)) (k : V z (pc + 1) lw st M nc ns) : V z pc lv (.int x :: st) M nc ns := fun H locs ls hw hl => lv_istore_n hz.exec hz.code hd hi (lvh_has hl) hn rfl (fun ls' hl' => k H locs ls' hw (hs ▸ lvh_set (v := .int x) hl hn hk hl'))
theorem v_istore (hz : Zok z fx al own nm cc rt nL r mc ms rv N) {i : Nat} {x : Int32} {lw : List (Option Value)} (hn : i < lv.length) (hk : okst lv i = true) (hs : lv.set i (some (.int x)) = lw) (hd : decode cc pc = .ok (.istore i, 2)) (k : V z (pc + 2) lw st M nc ns) : V z pc lv (.int x :: st) M nc ns := fun H locs ls hw hl => lv_istore hz.exec hz.code hd (lvh_has hl) hn rfl (fun ls' hl' => k H locs ls' hw (hs ▸ lvh_set (v := .int x) hl hn hk hl'))
theorem v_astore_n (hz : Zok z fx al own nm cc rt nL r mc ms rv N) {k : Fin 4} {i : Nat} {x : Nat} {lw : List (Option Value)} (hi : (k : Nat) = i) (hn : i < lv.length) (hk : okst lv i = true) (hs : lv.set i (some (.ref x)) = lw) (hd : decode cc pc = .ok (.astore_n k, 1)) (k : V z (pc + 1) lw st M nc ns) : V z pc lv (.ref x :: st) M nc ns := fun H locs ls hw hl => lv_astore_n hz.exec hz.code hd hi (lvh_has hl) hn rfl (fun ls' hl' => k H locs ls' hw (hs ▸ lvh_set (v := .ref x) hl hn hk hl'))
theorem v_astore (hz : Zok z fx al own nm cc rt nL r mc ms rv N) {i : Nat} {x : Nat} {lw : List (Option Value)} (hn : i < lv.length) (hk : okst lv i = true) (hs : lv.set i (some (.ref x)) = lw) (hd : decode cc pc = .ok (.astore i, 2)) (k : V z (pc + 2) lw st M nc ns) : V z pc lv (.ref x :: st) M nc ns := fun H locs ls hw hl => lv_astore hz.exec hz.code hd (lvh_has hl) hn rfl (fun ls' hl' => k H locs ls' hw (hs ▸ lvh_set (v := .ref x) hl hn hk hl'))
theorem v_iinc (hz : Zok z fx al own nm cc rt nL r mc ms rv N) {i : Nat} {n : Int} {x v : Int32} {lw : List (Option Value)} (hg : lv[i]? = some (some (.int x))) (hv : x + Int32.ofInt n = v) (hk : okst lv i = true) (hs : lv.set i (some (.int v)) = lw) (hd : decode cc pc = .ok (.iinc i n, 3)) (k : V z (pc + 3) lw st M nc ns) : V z pc lv st M nc ns := by
  intro H locs ls hw hl
  obtain ⟨q, hq⟩ := List.getElem?_of_mem (asc_mem (z := z) hg)
  have hn := (List.getElem?_eq_some_iff.mp hg).1
  exact lv_iinc hz.exec hz.code hd (lvh_has hl) hq hv hn rfl (fun ls' hl' => k H locs ls' hw (hs ▸ lvh_set (v := .int v) hl hn hk hl'))
theorem v_iadd (hz : Zok z fx al own nm cc rt nL r mc ms rv N) {x y : Int32} (hd : decode cc pc = .ok (.iadd, 1)) (k : V z (pc + 1) lv (.int (x + y) :: st) M nc ns) : V z pc lv (.int y :: .int x :: st) M nc ns := fun H locs ls hw hl => lv_iadd hz.exec hz.code hd (k H locs ls hw hl)
theorem v_isub (hz : Zok z fx al own nm cc rt nL r mc ms rv N) {x y : Int32} (hd : decode cc pc = .ok (.isub, 1)) (k : V z (pc + 1) lv (.int (x - y) :: st) M nc ns) : V z pc lv (.int y :: .int x :: st) M nc ns := fun H locs ls hw hl => lv_isub hz.exec hz.code hd (k H locs ls hw hl)
theorem v_imul (hz : Zok z fx al own nm cc rt nL r mc ms rv N) {x y : Int32} (hd : decode cc pc = .ok (.imul, 1)) (k : V z (pc + 1) lv (.int (x * y) :: st) M nc ns) : V z pc lv (.int y :: .int x :: st) M nc ns := fun H locs ls hw hl => lv_imul hz.exec hz.code hd (k H locs ls hw hl)
theorem v_iand (hz : Zok z fx al own nm cc rt nL r mc ms rv N) {x y : Int32} (hd : decode cc pc = .ok (.iand, 1)) (k : V z (pc + 1) lv (.int (x &&& y) :: st) M nc ns) : V z pc lv (.int y :: .int x :: st) M nc ns := fun H locs ls hw hl => lv_iand hz.exec hz.code hd (k H locs ls hw hl)
theorem v_ior (hz : Zok z fx al own nm cc rt nL r mc ms rv N) {x y : Int32} (hd : decode cc pc = .ok (.ior, 1)) (k : V z (pc + 1) lv (.int (x ||| y) :: st) M nc ns) : V z pc lv (.int y :: .int x :: st) M nc ns := fun H locs ls hw hl => lv_ior hz.exec hz.code hd (k H locs ls hw hl)
theorem v_ixor (hz : Zok z fx al own nm cc rt nL r mc ms rv N) {x y : Int32} (hd : decode cc pc = .ok (.ixor, 1)) (k : V z (pc + 1) lv (.int (x ^^^ y) :: st) M nc ns) : V z pc lv (.int y :: .int x :: st) M nc ns := fun H locs ls hw hl => lv_ixor hz.exec hz.code hd (k H locs ls hw hl)
theorem v_ishl (hz : Zok z fx al own nm cc rt nL r mc ms rv N) {x y : Int32} (hd : decode cc pc = .ok (.ishl, 1)) (k : V z (pc + 1) lv (.int (x <<< (y &&& 31)) :: st) M nc ns) : V z pc lv (.int y :: .int x :: st) M nc ns := fun H locs ls hw hl => lv_ishl hz.exec hz.code hd (k H locs ls hw hl)
theorem v_ishr (hz : Zok z fx al own nm cc rt nL r mc ms rv N) {x y : Int32} (hd : decode cc pc = .ok (.ishr, 1)) (k : V z (pc + 1) lv (.int (x >>> (y &&& 31)) :: st) M nc ns) : V z pc lv (.int y :: .int x :: st) M nc ns := fun H locs ls hw hl => lv_ishr hz.exec hz.code hd (k H locs ls hw hl)
theorem v_idiv (hz : Zok z fx al own nm cc rt nL r mc ms rv N) {x y : Int32} (hne : ¬ y = 0) (hd : decode cc pc = .ok (.idiv, 1)) (k : V z (pc + 1) lv (.int (x / y) :: st) M nc ns) : V z pc lv (.int y :: .int x :: st) M nc ns := fun H locs ls hw hl => lv_idiv hz.exec hz.code hd hne (k H locs ls hw hl)
theorem v_irem (hz : Zok z fx al own nm cc rt nL r mc ms rv N) {x y : Int32} (hne : ¬ y = 0) (hd : decode cc pc = .ok (.irem, 1)) (k : V z (pc + 1) lv (.int (x - x / y * y) :: st) M nc ns) : V z pc lv (.int y :: .int x :: st) M nc ns := fun H locs ls hw hl => lv_irem hz.exec hz.code hd hne (k H locs ls hw hl)
theorem v_ineg (hz : Zok z fx al own nm cc rt nL r mc ms rv N) {x : Int32} (hd : decode cc pc = .ok (.ineg, 1)) (k : V z (pc + 1) lv (.int (-x) :: st) M nc ns) : V z pc lv (.int x :: st) M nc ns := fun H locs ls hw hl => lv_ineg hz.exec hz.code hd (k H locs ls hw hl)
theorem v_ladd (hz : Zok z fx al own nm cc rt nL r mc ms rv N) {x y : Int64} (hd : decode cc pc = .ok (.ladd, 1)) (k : V z (pc + 1) lv (.long (x + y) :: st) M nc ns) : V z pc lv (.long y :: .long x :: st) M nc ns := fun H locs ls hw hl => lv_ladd hz.exec hz.code hd (k H locs ls hw hl)
theorem v_land (hz : Zok z fx al own nm cc rt nL r mc ms rv N) {x y : Int64} (hd : decode cc pc = .ok (.land, 1)) (k : V z (pc + 1) lv (.long (x &&& y) :: st) M nc ns) : V z pc lv (.long y :: .long x :: st) M nc ns := fun H locs ls hw hl => lv_land hz.exec hz.code hd (k H locs ls hw hl)
theorem v_lor (hz : Zok z fx al own nm cc rt nL r mc ms rv N) {x y : Int64} (hd : decode cc pc = .ok (.lor, 1)) (k : V z (pc + 1) lv (.long (x ||| y) :: st) M nc ns) : V z pc lv (.long y :: .long x :: st) M nc ns := fun H locs ls hw hl => lv_lor hz.exec hz.code hd (k H locs ls hw hl)
theorem v_lshl (hz : Zok z fx al own nm cc rt nL r mc ms rv N) {x : Int64} {y : Int32} (hd : decode cc pc = .ok (.lshl, 1)) (k : V z (pc + 1) lv (.long (x <<< (y.toInt64 &&& 63)) :: st) M nc ns) : V z pc lv (.int y :: .long x :: st) M nc ns := fun H locs ls hw hl => lv_lshl hz.exec hz.code hd rfl (k H locs ls hw hl)
theorem v_lcmp (hz : Zok z fx al own nm cc rt nL r mc ms rv N) {x y : Int64} (hd : decode cc pc = .ok (.lcmp, 1)) (k : V z (pc + 1) lv (.int (lg_cmp x y) :: st) M nc ns) : V z pc lv (.long y :: .long x :: st) M nc ns := fun H locs ls hw hl => W.lcmp hz.exec hz.code hd (k H locs ls hw hl)
theorem v_i2l (hz : Zok z fx al own nm cc rt nL r mc ms rv N) {x : Int32} (hd : decode cc pc = .ok (.i2l, 1)) (k : V z (pc + 1) lv (.long (x.toInt64) :: st) M nc ns) : V z pc lv (.int x :: st) M nc ns := fun H locs ls hw hl => lv_i2l hz.exec hz.code hd rfl (k H locs ls hw hl)
theorem v_l2i (hz : Zok z fx al own nm cc rt nL r mc ms rv N) {x : Int64} (hd : decode cc pc = .ok (.l2i, 1)) (k : V z (pc + 1) lv (.int (x.toInt32) :: st) M nc ns) : V z pc lv (.long x :: st) M nc ns := fun H locs ls hw hl => lv_l2i hz.exec hz.code hd rfl (k H locs ls hw hl)
theorem v_i2b (hz : Zok z fx al own nm cc rt nL r mc ms rv N) {x : Int32} (hd : decode cc pc = .ok (.i2b, 1)) (k : V z (pc + 1) lv (.int (x.toInt8.toInt32) :: st) M nc ns) : V z pc lv (.int x :: st) M nc ns := fun H locs ls hw hl => lv_i2b hz.exec hz.code hd rfl (k H locs ls hw hl)
theorem v_i2s (hz : Zok z fx al own nm cc rt nL r mc ms rv N) {x : Int32} (hd : decode cc pc = .ok (.i2s, 1)) (k : V z (pc + 1) lv (.int (x.toInt16.toInt32) :: st) M nc ns) : V z pc lv (.int x :: st) M nc ns := fun H locs ls hw hl => lv_i2s hz.exec hz.code hd rfl (k H locs ls hw hl)
theorem v_i2c (hz : Zok z fx al own nm cc rt nL r mc ms rv N) {x : Int32} (hd : decode cc pc = .ok (.i2c, 1)) (k : V z (pc + 1) lv (.int ((x.toUInt32 % 65536).toInt32) :: st) M nc ns) : V z pc lv (.int x :: st) M nc ns := fun H locs ls hw hl => lv_i2c hz.exec hz.code hd rfl (k H locs ls hw hl)
theorem v_dup (hz : Zok z fx al own nm cc rt nL r mc ms rv N) {va : Value} (hva : va.category = 1) (hd : decode cc pc = .ok (.dup, 1)) (k : V z (pc + 1) lv (va :: va :: st) M nc ns) : V z pc lv (va :: st) M nc ns := fun H locs ls hw hl => lv_dup hz.exec hz.code hd (by rw [tv_cat]; exact hva) (k H locs ls hw hl)
theorem v_pop (hz : Zok z fx al own nm cc rt nL r mc ms rv N) {va : Value} (hva : va.category = 1) (hd : decode cc pc = .ok (.pop, 1)) (k : V z (pc + 1) lv (st) M nc ns) : V z pc lv (va :: st) M nc ns := fun H locs ls hw hl => lv_pop hz.exec hz.code hd (by rw [tv_cat]; exact hva) (k H locs ls hw hl)
theorem v_dup_x1 (hz : Zok z fx al own nm cc rt nL r mc ms rv N) {va vb : Value} (hva : va.category = 1) (hvb : vb.category = 1) (hd : decode cc pc = .ok (.dup_x1, 1)) (k : V z (pc + 1) lv (va :: vb :: va :: st) M nc ns) : V z pc lv (va :: vb :: st) M nc ns := fun H locs ls hw hl => lv_dup_x1 hz.exec hz.code hd (by rw [tv_cat]; exact hva) (by rw [tv_cat]; exact hvb) (k H locs ls hw hl)
theorem v_if_eq (hz : Zok z fx al own nm cc rt nL r mc ms rv N) {x : Int32} {off : Int} {tgt : Nat} (hd : decode cc pc = .ok (.ifCond .eq off, 3)) (ht : (pc : Int) + off = (tgt : Int)) (kt : x = 0 → V z tgt lv st M nc ns) (kf : ¬ (x = 0) → V z (pc + 3) lv st M nc ns) : V z pc lv (.int x :: st) M nc ns := fun H locs ls hw hl => lv_if_eq hz.exec hz.code hd ht (fun q => kt q H locs ls hw hl) (fun q => kf q H locs ls hw hl)
theorem v_icmp_eq (hz : Zok z fx al own nm cc rt nL r mc ms rv N) {x y : Int32} {off : Int} {tgt : Nat} (hd : decode cc pc = .ok (.if_icmp .eq off, 3)) (ht : (pc : Int) + off = (tgt : Int)) (kt : x = y → V z tgt lv st M nc ns) (kf : ¬ (x = y) → V z (pc + 3) lv st M nc ns) : V z pc lv (.int y :: .int x :: st) M nc ns := fun H locs ls hw hl => lv_icmp_eq hz.exec hz.code hd ht (fun q => kt q H locs ls hw hl) (fun q => kf q H locs ls hw hl)
theorem v_if_ne (hz : Zok z fx al own nm cc rt nL r mc ms rv N) {x : Int32} {off : Int} {tgt : Nat} (hd : decode cc pc = .ok (.ifCond .ne off, 3)) (ht : (pc : Int) + off = (tgt : Int)) (kt : ¬ x = 0 → V z tgt lv st M nc ns) (kf : x = 0 → V z (pc + 3) lv st M nc ns) : V z pc lv (.int x :: st) M nc ns := fun H locs ls hw hl => lv_if_ne hz.exec hz.code hd ht (fun q => kt q H locs ls hw hl) (fun q => kf q H locs ls hw hl)
theorem v_icmp_ne (hz : Zok z fx al own nm cc rt nL r mc ms rv N) {x y : Int32} {off : Int} {tgt : Nat} (hd : decode cc pc = .ok (.if_icmp .ne off, 3)) (ht : (pc : Int) + off = (tgt : Int)) (kt : ¬ x = y → V z tgt lv st M nc ns) (kf : x = y → V z (pc + 3) lv st M nc ns) : V z pc lv (.int y :: .int x :: st) M nc ns := fun H locs ls hw hl => lv_icmp_ne hz.exec hz.code hd ht (fun q => kt q H locs ls hw hl) (fun q => kf q H locs ls hw hl)
theorem v_if_lt (hz : Zok z fx al own nm cc rt nL r mc ms rv N) {x : Int32} {off : Int} {tgt : Nat} (hd : decode cc pc = .ok (.ifCond .lt off, 3)) (ht : (pc : Int) + off = (tgt : Int)) (kt : x < 0 → V z tgt lv st M nc ns) (kf : ¬ (x < 0) → V z (pc + 3) lv st M nc ns) : V z pc lv (.int x :: st) M nc ns := fun H locs ls hw hl => lv_if_lt hz.exec hz.code hd ht (fun q => kt q H locs ls hw hl) (fun q => kf q H locs ls hw hl)
theorem v_icmp_lt (hz : Zok z fx al own nm cc rt nL r mc ms rv N) {x y : Int32} {off : Int} {tgt : Nat} (hd : decode cc pc = .ok (.if_icmp .lt off, 3)) (ht : (pc : Int) + off = (tgt : Int)) (kt : x < y → V z tgt lv st M nc ns) (kf : ¬ (x < y) → V z (pc + 3) lv st M nc ns) : V z pc lv (.int y :: .int x :: st) M nc ns := fun H locs ls hw hl => lv_icmp_lt hz.exec hz.code hd ht (fun q => kt q H locs ls hw hl) (fun q => kf q H locs ls hw hl)
theorem v_if_ge (hz : Zok z fx al own nm cc rt nL r mc ms rv N) {x : Int32} {off : Int} {tgt : Nat} (hd : decode cc pc = .ok (.ifCond .ge off, 3)) (ht : (pc : Int) + off = (tgt : Int)) (kt : 0 ≤ x → V z tgt lv st M nc ns) (kf : ¬ (0 ≤ x) → V z (pc + 3) lv st M nc ns) : V z pc lv (.int x :: st) M nc ns := fun H locs ls hw hl => lv_if_ge hz.exec hz.code hd ht (fun q => kt q H locs ls hw hl) (fun q => kf q H locs ls hw hl)
theorem v_icmp_ge (hz : Zok z fx al own nm cc rt nL r mc ms rv N) {x y : Int32} {off : Int} {tgt : Nat} (hd : decode cc pc = .ok (.if_icmp .ge off, 3)) (ht : (pc : Int) + off = (tgt : Int)) (kt : y ≤ x → V z tgt lv st M nc ns) (kf : ¬ (y ≤ x) → V z (pc + 3) lv st M nc ns) : V z pc lv (.int y :: .int x :: st) M nc ns := fun H locs ls hw hl => lv_icmp_ge hz.exec hz.code hd ht (fun q => kt q H locs ls hw hl) (fun q => kf q H locs ls hw hl)
theorem v_if_gt (hz : Zok z fx al own nm cc rt nL r mc ms rv N) {x : Int32} {off : Int} {tgt : Nat} (hd : decode cc pc = .ok (.ifCond .gt off, 3)) (ht : (pc : Int) + off = (tgt : Int)) (kt : 0 < x → V z tgt lv st M nc ns) (kf : ¬ (0 < x) → V z (pc + 3) lv st M nc ns) : V z pc lv (.int x :: st) M nc ns := fun H locs ls hw hl => lv_if_gt hz.exec hz.code hd ht (fun q => kt q H locs ls hw hl) (fun q => kf q H locs ls hw hl)
theorem v_icmp_gt (hz : Zok z fx al own nm cc rt nL r mc ms rv N) {x y : Int32} {off : Int} {tgt : Nat} (hd : decode cc pc = .ok (.if_icmp .gt off, 3)) (ht : (pc : Int) + off = (tgt : Int)) (kt : y < x → V z tgt lv st M nc ns) (kf : ¬ (y < x) → V z (pc + 3) lv st M nc ns) : V z pc lv (.int y :: .int x :: st) M nc ns := fun H locs ls hw hl => lv_icmp_gt hz.exec hz.code hd ht (fun q => kt q H locs ls hw hl) (fun q => kf q H locs ls hw hl)
theorem v_if_le (hz : Zok z fx al own nm cc rt nL r mc ms rv N) {x : Int32} {off : Int} {tgt : Nat} (hd : decode cc pc = .ok (.ifCond .le off, 3)) (ht : (pc : Int) + off = (tgt : Int)) (kt : x ≤ 0 → V z tgt lv st M nc ns) (kf : ¬ (x ≤ 0) → V z (pc + 3) lv st M nc ns) : V z pc lv (.int x :: st) M nc ns := fun H locs ls hw hl => lv_if_le hz.exec hz.code hd ht (fun q => kt q H locs ls hw hl) (fun q => kf q H locs ls hw hl)
theorem v_icmp_le (hz : Zok z fx al own nm cc rt nL r mc ms rv N) {x y : Int32} {off : Int} {tgt : Nat} (hd : decode cc pc = .ok (.if_icmp .le off, 3)) (ht : (pc : Int) + off = (tgt : Int)) (kt : x ≤ y → V z tgt lv st M nc ns) (kf : ¬ (x ≤ y) → V z (pc + 3) lv st M nc ns) : V z pc lv (.int y :: .int x :: st) M nc ns := fun H locs ls hw hl => lv_icmp_le hz.exec hz.code hd ht (fun q => kt q H locs ls hw hl) (fun q => kf q H locs ls hw hl)
theorem v_goto (hz : Zok z fx al own nm cc rt nL r mc ms rv N) {off : Int} {tgt : Nat} (hd : decode cc pc = .ok (.goto off, 3)) (ht : (pc : Int) + off = (tgt : Int)) (k : V z tgt lv st M nc ns) : V z pc lv st M nc ns := fun H locs ls hw hl => lv_goto hz.exec hz.code hd ht (k H locs ls hw hl)
theorem v_tableOut (hz : Zok z fx al own nm cc rt nL r mc ms rv N) {dflt lo hi : Int} {offs : Array Int} {len : Nat} {x : Int32} {tgt : Nat} (hd : decode cc pc = .ok (.tableswitch dflt lo hi offs, len)) (h : x.toInt < lo ∨ hi < x.toInt) (ht : (pc : Int) + dflt = (tgt : Int)) (k : V z tgt lv st M nc ns) : V z pc lv (.int x :: st) M nc ns := fun H locs ls hw hl => lv_tableOut hz.exec hz.code hd h ht (k H locs ls hw hl)
theorem v_tableIn (hz : Zok z fx al own nm cc rt nL r mc ms rv N) {dflt lo hi : Int} {offs : Array Int} {len : Nat} {x : Int32} {off : Int} {tgt : Nat} (hd : decode cc pc = .ok (.tableswitch dflt lo hi offs, len)) (h1 : ¬ x.toInt < lo) (h2 : ¬ hi < x.toInt) (ho : offs[(x.toInt - lo).toNat]? = some off) (ht : (pc : Int) + off = (tgt : Int)) (k : V z tgt lv st M nc ns) : V z pc lv (.int x :: st) M nc ns := fun H locs ls hw hl => lv_tableIn hz.exec hz.code hd h1 h2 ho ht (k H locs ls hw hl)
theorem v_lookup (hz : Zok z fx al own nm cc rt nL r mc ms rv N) {dflt : Int} {ps : Array (Int × Int)} {len : Nat} {x : Int32} {off : Int} {tgt : Nat} (hd : decode cc pc = .ok (.lookupswitch dflt ps, len)) (hp : (ps.toList.zip (ps.toList.drop 1)).all (fun (a, next) => a.1 < next.1) = true) (ho : Op.lookupswitch.offset ps.toList dflt x.toInt = off) (ht : (pc : Int) + off = (tgt : Int)) (k : V z tgt lv st M nc ns) : V z pc lv (.int x :: st) M nc ns := fun H locs ls hw hl => lv_lookup hz.exec hz.code hd hp ho ht (k H locs ls hw hl)
theorem v_ldc (hz : Zok z fx al own nm cc rt nL r mc ms rv N) {idx : Nat} {v : Int32} (hw0 : Cond.constant own idx v ∈ BIG) (hd : decode cc pc = .ok (.ldc idx, 2)) (k : V z (pc + 2) lv (.int v :: st) M nc ns) : V z pc lv st M nc ns := fun H locs ls hw hl => lv_ldc hz.exec hz.code hz.hown (hz.ts _ hw0) hd (k H locs ls hw hl)
theorem v_ldc2 (hz : Zok z fx al own nm cc rt nL r mc ms rv N) {idx : Nat} {v : Int64} (hw0 : Cond.constantLong own idx v ∈ BIG) (hd : decode cc pc = .ok (.ldc2_w idx, 3)) (k : V z (pc + 3) lv (.long v :: st) M nc ns) : V z pc lv st M nc ns := fun H locs ls hw hl => lv_ldc2 hz.exec hz.code hz.hown (hz.ts _ hw0) hd (k H locs ls hw hl)
theorem v_ldcS (hz : Zok z fx al own nm cc rt nL r mc ms rv N) {idx j : Nat} {tx : String} (hw0 : (own, idx, tx, j) ∈ xRef) (hd : decode cc pc = .ok (.ldc idx, 2)) (k : V z (pc + 2) lv (.retAddr j :: st) M nc ns) : V z pc lv st M nc ns := fun H locs ls hw hl => va_ldcS hz.exec hz.code hz.hown (hz.ext.2.2.2.2.2.1 _ hw0) hd (k H locs ls hw hl)
end RULES
end
section
/-! ===== rules of fields and arrays ===== -/
/-- a field's link: in class own, the pool's idx names field k of the class number ci -/
def FL (own : String) (idx ci k : Nat) : Prop := ∃ (C : String) (T : u_T) (n : Nat) (ty0 : Nat → FieldType), vwCl[ci]? = some (C, T, n) ∧ k < n ∧ ci < 13 ∧ Cond.fieldLink own idx (T k).1 (T k).2.1 (T k).2.2.1 ∈ BIG ∧ (∀ w ∈ u_ws C T n, w ∈ BIG) ∧ (∀ j, j < n → parseFieldDescriptor (T j).2.2.1 = some (ty0 j)) ∧ (∀ a, a < n → ∀ b, b < n → a ≠ b → (T a).2.1 ≠ (T b).2.1)
/-- of that field: its type, and whether it is final -/
def FT (ci k : Nat) (ty : FieldType) (fin : Bool) (decl : String) : Prop := ∃ (C : String) (T : u_T) (n : Nat), vwCl[ci]? = some (C, T, n) ∧ parseFieldDescriptor (T k).2.2.1 = some ty ∧ (T k).2.2.2 = fin ∧ (T k).1 = decl
section RULES2
variable {z : Zx} {fx : Fx} {al : Bool} {own nm : String} {cc : ByteArray} {rt : Option FieldType} {nL r mc ms : Nat} {rv : Option Value} {N : Mem} {pc : Nat} {lv : List (Option Value)} {st : List Value} {M : Mem} {nc ns : Nat}
theorem v_getI (hz : Zok z fx al own nm cc rt nL r mc ms rv N) {idx ci k a : Nat} (hf : FL own idx ci k) (hb : (fk ci)[k]? = some false) (hd : decode cc pc = .ok (.getfield idx, 3)) (ha : a < mN M) (hka : mK M a = ci) (kk : V z (pc + 3) lv (.int (mI M a k) :: st) M nc ns) : V z pc lv (.ref a :: st) M nc ns := by
  intro H locs ls hw hl
  obtain ⟨C, T, n, ty0, hc, hk, hci, hlk, hin, hty, hnm⟩ := hf
  have he := wl_get (cy := z.cy) (ad := z.ad) ha
  rw [ent_obj hka hci] at he
  exact va_get hz.exec hz.code hz.ts hin hz.hown hz.K hw.1 a he hc k hk (hz.ts _ hlk) (fun _ h => h) (v := .int (mI M a k)) (by rw [flds_at hb]; rfl) hd (kk H locs ls hw hl)
theorem v_getR (hz : Zok z fx al own nm cc rt nL r mc ms rv N) {idx ci k a b : Nat} (hf : FL own idx ci k) (hb : (fk ci)[k]? = some true) (hd : decode cc pc = .ok (.getfield idx, 3)) (ha : a < mN M) (hka : mK M a = ci) (hr : mR M a k = some b) (kk : V z (pc + 3) lv (.ref b :: st) M nc ns) : V z pc lv (.ref a :: st) M nc ns := by
  intro H locs ls hw hl
  obtain ⟨C, T, n, ty0, hc, hk, hci, hlk, hin, hty, hnm⟩ := hf
  have he := wl_get (cy := z.cy) (ad := z.ad) ha
  rw [ent_obj hka hci] at he
  exact va_get hz.exec hz.code hz.ts hin hz.hown hz.K hw.1 a he hc k hk (hz.ts _ hlk) (fun _ h => h) (v := .ref (z.ad b)) (by rw [flds_at hb, fv, if_pos rfl, hr]; rfl) hd (kk H locs ls hw hl)
/-- what a store into a field leaves of the world -/
theorem w_fld {ci k a : Nat} {M' : Mem} {bt : Bool} {v : Value} (hci : ci < 13) (hka : mK M a = ci) (hb : (fk ci)[k]? = some bt) (hn : mN M' = mN M) (hK : ∀ b, mK M' b = mK M b) (hG : ∀ b, mG M' b = mG M b) (hR : ∀ b j, (b ≠ a ∨ j ≠ k) → mR M' b j = mR M b j) (hI : ∀ b j, (b ≠ a ∨ j ≠ k) → mI M' b j = mI M b j) (hL : ∀ b j, mL M' b j = mL M b j) (hv : fv z.ad M' a k bt = v) :
    (wl z.cy z.ad M).set a (z.ad a, .inr (ci, (flds z.ad M a (fk ci)).set k v)) = wl z.cy z.ad M' := by
  refine wl_set hn (fun j hj => ent_same (hK j) (hG j) (fun i => hR j i (Or.inl hj)) (fun i => hI j i (Or.inl hj)) (hL j)) ?_
  rw [ent_obj ((hK a).trans hka) hci, ← hv, flds_set hb (fun j hj => ⟨hR a j (Or.inr hj), hI a j (Or.inr hj)⟩)]
theorem w_put {A : Nat → Prop} {H0 H : Heap} {locs : List Loc} {a i : Nat} {H1 : Heap} (h : va_S A H0 H locs) (e2 : H1.size = H.size) (e3 : ∀ q, q ≠ a → H1[q]? = H[q]?) (ha : A a) : va_S A H0 H1 (locs ++ [⟨a, i⟩]) := h.put e2 e3 ha
theorem v_putX (hz : Zok z fx al own nm cc rt nL r mc ms rv N) {idx ci k a : Nat} {M' : Mem} {ty : FieldType} {v : Value} (hf : FL own idx ci k) (ht : FT ci k ty false own ∨ ∃ d, FT ci k ty false d) (hnr : narrow ty v = v) (hfit : fits ty v = true) (hd : decode cc pc = .ok (.putfield idx, 3)) (ha : a < mN M) (hka : mK M a = ci) (hkl : k < (fk ci).length) (hws : (wl z.cy z.ad M).set a (z.ad a, .inr (ci, (flds z.ad M a (fk ci)).set k v)) = wl z.cy z.ad M') (hn : mN M' = mN M) {sv : Value} (hsv : tv z.ad z.ex sv = v) (kk : V z (pc + 3) lv st M' nc ns) : V z pc lv (sv :: .ref a :: st) M nc ns := by
  intro H locs ls hw hl
  obtain ⟨C, T, n, ty0, hc, hk, hci, hlk, hin, hty, hnm⟩ := hf
  obtain ⟨d, C', T', n', hc', hpt, hfin, hdecl⟩ : ∃ d, FT ci k ty false d := ht.elim (fun h => ⟨own, h⟩) id
  cases hc.symm.trans hc'
  have he := wl_get (cy := z.cy) (ad := z.ad) ha
  rw [ent_obj hka hci] at he
  have hD := hz.D M
  have hap := va_apart (own := own) hz.ts hin ty0 hty hnm hz.K hc
  obtain ⟨rr, h1, cell, q1, q2, q3, q4⟩ := hw.1 a _ he
  have hr : rr = (C, T, n) := Option.some.inj (h1.symm.trans hc)
  subst hr
  obtain ⟨hS, hfc, kC, hkC, hkind⟩ := hz.K.1 ci _ hc
  obtain ⟨cf, kf, fi, f, hi, hsl⟩ := hS k hk
  have hlay := hz.ts _ (hin _ (u_in_lay hk))
  unfold u_lay at hlay
  rw [if_neg (by rw [hfin]; decide)] at hlay
  have hst := (u_facts hfc hkC (u_lays hz.ts hin hk) hi).1
  have h6 := u_store hfc hkC hkind hlay hi hpt hnr hfit
  show W z.p z.l z.e z.R z.s z.m z.a z.b z.mt z.c H locs nc ns z.Q (F0 z.m pc ls (tv z.ad z.ex sv :: .ref (z.ad a) :: st.map (tv z.ad z.ex)))
  rw [hsv]
  refine W.putK hz.exec hz.code (f := f) ⟨hz.hown, hz.ts _ hlk, ⟨_, _, _, hi⟩, hst⟩ (by rw [q2]; exact h6) q1 q3 (by rw [hsl]; exact k2_hasslot (q4 k hk)) rfl rfl hd fun H' e1 e2 e3 => ?_
  rw [hsl] at e1 ⊢
  have hat : va_at z.D vwCl (z.ad a, .inr (ci, (flds z.ad M a (fk ci)).set k v)) H' := ⟨_, hc, t_OB.to (V := updV (vp_V (flds z.ad M a (fk ci))) k v) ⟨_, e1, q2, q3, t_set q4 hap hk v⟩ (fun j _ => vp_updV_set (by rw [flds_len]; exact hkl) v j)⟩
  have hP' := hw.1.set hD he hat e3
  rw [hws] at hP'
  exact kk H' _ ls ⟨hP', hw.2.1.put e2 e3 (hD.2 a _ he), fun hal j => by rw [hn, e2]; exact hw.2.2 hal j⟩ hl
theorem v_putXF (hz : Zok z fx al own nm cc rt nL r mc ms rv N) {idx ci k a : Nat} {M' : Mem} {ty : FieldType} {v : Value} (hf : FL own idx ci k) (ht : FT ci k ty true own) (hin2 : nm = "<init>") (hnr : narrow ty v = v) (hfit : fits ty v = true) (hd : decode cc pc = .ok (.putfield idx, 3)) (ha : a < mN M) (hka : mK M a = ci) (hkl : k < (fk ci).length) (hws : (wl z.cy z.ad M).set a (z.ad a, .inr (ci, (flds z.ad M a (fk ci)).set k v)) = wl z.cy z.ad M') (hn : mN M' = mN M) {sv : Value} (hsv : tv z.ad z.ex sv = v) (kk : V z (pc + 3) lv st M' nc ns) : V z pc lv (sv :: .ref a :: st) M nc ns := by
  intro H locs ls hw hl
  obtain ⟨C, T, n, ty0, hc, hk, hci, hlk, hin, hty, hnm⟩ := hf
  obtain ⟨C', T', n', hc', hpt, hfin, hdecl⟩ := ht
  cases hc.symm.trans hc'
  have he := wl_get (cy := z.cy) (ad := z.ad) ha
  rw [ent_obj hka hci] at he
  have hD := hz.D M
  have hap := va_apart (own := own) hz.ts hin ty0 hty hnm hz.K hc
  obtain ⟨rr, h1, cell, q1, q2, q3, q4⟩ := hw.1 a _ he
  have hr : rr = (C, T, n) := Option.some.inj (h1.symm.trans hc)
  subst hr
  obtain ⟨hS, hfc, kC, hkC, hkind⟩ := hz.K.1 ci _ hc
  obtain ⟨cf, kf, fi, f, hi, hsl⟩ := hS k hk
  have hlay := hz.ts _ (hin _ (u_in_lay hk))
  unfold u_lay at hlay
  rw [if_pos hfin] at hlay
  have hst := (u_facts hfc hkC (u_lays hz.ts hin hk) hi).1
  have hcf : z.m.cls = cf := by
    obtain ⟨_, _, c', _, _, _, -, -, hf', -, -, -, hown2, -⟩ := Cond.laysFinal_spec hlay
    have e1 : c' = cf := by have := hi.symm.trans hf'; simp at this; exact this.1.symm
    rw [hdecl] at hown2
    rw [← e1]; exact Option.some.inj (hz.hown.symm.trans hown2)
  have h6 := u_fits hfc hkC hkind (Or.inr hlay) hi hpt hnr hfit
  show W z.p z.l z.e z.R z.s z.m z.a z.b z.mt z.c H locs nc ns z.Q (F0 z.m pc ls (tv z.ad z.ex sv :: .ref (z.ad a) :: st.map (tv z.ad z.ex)))
  rw [hsv]
  refine W.putFinK hz.exec hz.code hz.hown (hz.ts _ hlk) hi hst hcf (hz.nam.trans hin2) (by rw [q2]; exact h6) q1 q3 (by rw [hsl]; exact k2_hasslot (q4 k hk)) rfl rfl hd fun H' e1 e2 e3 => ?_
  rw [hsl] at e1 ⊢
  have hat : va_at z.D vwCl (z.ad a, .inr (ci, (flds z.ad M a (fk ci)).set k v)) H' := ⟨_, hc, t_OB.to (V := updV (vp_V (flds z.ad M a (fk ci))) k v) ⟨_, e1, q2, q3, t_set q4 hap hk v⟩ (fun j _ => vp_updV_set (by rw [flds_len]; exact hkl) v j)⟩
  have hP' := hw.1.set hD he hat e3
  rw [hws] at hP'
  exact kk H' _ ls ⟨hP', hw.2.1.put e2 e3 (hD.2 a _ he), fun hal j => by rw [hn, e2]; exact hw.2.2 hal j⟩ hl
theorem up2_ne {α : Type} {f : Nat → Nat → α} {a i b j : Nat} {x : α} (h : b ≠ a ∨ j ≠ i) : up2 f a i x b j = f b j := if_neg (fun q => h.elim (fun h => h q.1) (fun h => h q.2))
theorem v_putI (hz : Zok z fx al own nm cc rt nL r mc ms rv N) {idx ci k a : Nat} {ty : FieldType} {x : Int32} {d : String} (hf : FL own idx ci k) (ht : FT ci k ty false d) (hci : ci < 13) (hb : (fk ci)[k]? = some false) (hnr : narrow ty (.int x) = .int x) (hfit : fits ty (.int x) = true) (hd : decode cc pc = .ok (.putfield idx, 3)) (ha : a < mN M) (hka : mK M a = ci) (kk : V z (pc + 3) lv st (stI M a k x) nc ns) : V z pc lv (.int x :: .ref a :: st) M nc ns :=
  v_putX hz hf (Or.inr ⟨d, ht⟩) hnr hfit hd ha hka (List.getElem?_eq_some_iff.mp hb).1 (w_fld (M' := stI M a k x) hci hka hb rfl (fun _ => rfl) (fun _ => rfl) (fun _ _ _ => rfl) (fun _ _ h => up2_ne h) (fun _ _ => rfl) (by simp [fv, mI_stI])) rfl rfl kk
theorem v_putR (hz : Zok z fx al own nm cc rt nL r mc ms rv N) {idx ci k a b : Nat} {ty : FieldType} {d : String} (hf : FL own idx ci k) (ht : FT ci k ty false d) (hci : ci < 13) (hb : (fk ci)[k]? = some true) (hnr : ∀ q, narrow ty (.ref q) = .ref q) (hfit : ∀ q, fits ty (.ref q) = true) (hd : decode cc pc = .ok (.putfield idx, 3)) (ha : a < mN M) (hka : mK M a = ci) (kk : V z (pc + 3) lv st (stR M a k (some b)) nc ns) : V z pc lv (.ref b :: .ref a :: st) M nc ns :=
  v_putX hz hf (Or.inr ⟨d, ht⟩) (hnr _) (hfit _) hd ha hka (List.getElem?_eq_some_iff.mp hb).1 (w_fld (M' := stR M a k (some b)) (v := .ref (z.ad b)) hci hka hb rfl (fun _ => rfl) (fun _ => rfl) (fun _ _ h => up2_ne h) (fun _ _ _ => rfl) (fun _ _ => rfl) (by simp [fv, mR_stR, va_rf])) rfl rfl kk
theorem v_putIF (hz : Zok z fx al own nm cc rt nL r mc ms rv N) {idx ci k a : Nat} {ty : FieldType} {x : Int32} (hf : FL own idx ci k) (ht : FT ci k ty true own) (hin2 : nm = "<init>") (hci : ci < 13) (hb : (fk ci)[k]? = some false) (hnr : narrow ty (.int x) = .int x) (hfit : fits ty (.int x) = true) (hd : decode cc pc = .ok (.putfield idx, 3)) (ha : a < mN M) (hka : mK M a = ci) (kk : V z (pc + 3) lv st (stI M a k x) nc ns) : V z pc lv (.int x :: .ref a :: st) M nc ns :=
  v_putXF hz hf ht hin2 hnr hfit hd ha hka (List.getElem?_eq_some_iff.mp hb).1 (w_fld (M' := stI M a k x) hci hka hb rfl (fun _ => rfl) (fun _ => rfl) (fun _ _ _ => rfl) (fun _ _ h => up2_ne h) (fun _ _ => rfl) (by simp [fv, mI_stI])) rfl rfl kk
theorem v_putRF (hz : Zok z fx al own nm cc rt nL r mc ms rv N) {idx ci k a b : Nat} {ty : FieldType} (hf : FL own idx ci k) (ht : FT ci k ty true own) (hin2 : nm = "<init>") (hci : ci < 13) (hb : (fk ci)[k]? = some true) (hnr : ∀ q, narrow ty (.ref q) = .ref q) (hfit : ∀ q, fits ty (.ref q) = true) (hd : decode cc pc = .ok (.putfield idx, 3)) (ha : a < mN M) (hka : mK M a = ci) (kk : V z (pc + 3) lv st (stR M a k (some b)) nc ns) : V z pc lv (.ref b :: .ref a :: st) M nc ns :=
  v_putXF hz hf ht hin2 (hnr _) (hfit _) hd ha hka (List.getElem?_eq_some_iff.mp hb).1 (w_fld (M' := stR M a k (some b)) (v := .ref (z.ad b)) hci hka hb rfl (fun _ => rfl) (fun _ => rfl) (fun _ _ h => up2_ne h) (fun _ _ _ => rfl) (fun _ _ => rfl) (by simp [fv, mR_stR, va_rf])) rfl rfl kk
end RULES2
end
section
/-! ===== rules of arrays ===== -/
def inb (i : Int32) (n : Nat) : Bool := !(decide (i < 0)) && decide (i.toNatClampNeg < n)
theorem inb_in {i : Int32} {n : Nat} (h : inb i n = true) : vp_in i n := by
  simp only [inb, Bool.and_eq_true, Bool.not_eq_true', decide_eq_false_iff_not, decide_eq_true_eq] at h
  exact fun q => q.elim h.1 (fun q => Nat.not_le.mpr h.2 q)
section RULES3
variable {z : Zx} {fx : Fx} {al : Bool} {own nm : String} {cc : ByteArray} {rt : Option FieldType} {nL r mc ms : Nat} {rv : Option Value} {N : Mem} {pc : Nat} {lv : List (Option Value)} {st : List Value} {M : Mem} {nc ns : Nat}
theorem v_iaload (hz : Zok z fx al own nm cc rt nL r mc ms rv N) {a : Nat} {i : Int32} (hd : decode cc pc = .ok (.iaload, 1)) (ha : a < mN M) (hk : mK M a = 14) (hin : inb i (mG M a) = true) (kk : V z (pc + 1) lv (.int (mI M a i.toNatClampNeg) :: st) M nc ns) : V z pc lv (.int i :: .ref a :: st) M nc ns := by
  intro H locs ls hw hl
  have he := wl_get (cy := z.cy) (ad := z.ad) ha
  rw [ent_ints hk (by decide)] at he
  exact va_iald hz.exec hz.code hz.K hw.1 a 1 he rfl (inb_in hin) hd (kk H locs ls hw hl)
theorem v_baload (hz : Zok z fx al own nm cc rt nL r mc ms rv N) {a : Nat} {i : Int32} (hd : decode cc pc = .ok (.baload, 1)) (ha : a < mN M) (hk : mK M a = 13) (hin : inb i (mG M a) = true) (kk : V z (pc + 1) lv (.int (mI M a i.toNatClampNeg) :: st) M nc ns) : V z pc lv (.int i :: .ref a :: st) M nc ns := by
  intro H locs ls hw hl
  have he := wl_get (cy := z.cy) (ad := z.ad) ha
  rw [ent_ints hk (by decide)] at he
  exact va_bald hz.exec hz.code hz.K hw.1 a 0 he rfl (inb_in hin) hd (kk H locs ls hw hl)
theorem v_zaload (hz : Zok z fx al own nm cc rt nL r mc ms rv N) {a : Nat} {i : Int32} (hd : decode cc pc = .ok (.baload, 1)) (ha : a < mN M) (hk : mK M a = 16) (hin : inb i (mG M a) = true) (kk : V z (pc + 1) lv (.int (mI M a i.toNatClampNeg) :: st) M nc ns) : V z pc lv (.int i :: .ref a :: st) M nc ns := by
  intro H locs ls hw hl
  have he := wl_get (cy := z.cy) (ad := z.ad) ha
  rw [ent_ints hk (by decide)] at he
  exact va_zald hz.exec hz.code hz.K hw.1 a 3 he rfl (inb_in hin) hd (kk H locs ls hw hl)
theorem v_laload (hz : Zok z fx al own nm cc rt nL r mc ms rv N) {a : Nat} {i : Int32} (hd : decode cc pc = .ok (.laload, 1)) (ha : a < mN M) (hk : mK M a = 15) (hin : inb i (mG M a) = true) (kk : V z (pc + 1) lv (.long (mL M a i.toNatClampNeg) :: st) M nc ns) : V z pc lv (.int i :: .ref a :: st) M nc ns := by
  intro H locs ls hw hl
  have he := wl_get (cy := z.cy) (ad := z.ad) ha
  rw [ent_longs hk] at he
  exact va_lald hz.exec hz.code hz.K hw.1 a 2 he rfl (inb_in hin) hd (kk H locs ls hw hl)
theorem v_aaload (hz : Zok z fx al own nm cc rt nL r mc ms rv N) {a b : Nat} {i : Int32} (hd : decode cc pc = .ok (.aaload, 1)) (ha : a < mN M) (hk : mK M a = 17) (hin : inb i (mG M a) = true) (hr : mR M a i.toNatClampNeg = some b) (kk : V z (pc + 1) lv (.ref b :: st) M nc ns) : V z pc lv (.int i :: .ref a :: st) M nc ns := by
  intro H locs ls hw hl
  have he := wl_get (cy := z.cy) (ad := z.ad) ha
  rw [ent_refs hk] at he
  refine va_aldq hz.exec hz.code hz.K hw.1 a 4 he rfl (inb_in hin) hd ?_
  show W z.p z.l z.e z.R z.s z.m z.a z.b z.mt z.c H locs nc ns z.Q (F0 z.m (pc + 1) ls (va_rf ((mR M a i.toNatClampNeg).map z.ad) :: st.map (tv z.ad z.ex)))
  rw [hr]
  exact kk H locs ls hw hl
theorem v_alen (hz : Zok z fx al own nm cc rt nL r mc ms rv N) {a : Nat} (hd : decode cc pc = .ok (.arraylength, 1)) (ha : a < mN M) (hk : mK M a = 14) (kk : V z (pc + 1) lv (.int (Int32.ofNat (mG M a)) :: st) M nc ns) : V z pc lv (.ref a :: st) M nc ns := by
  intro H locs ls hw hl
  have he := wl_get (cy := z.cy) (ad := z.ad) ha
  rw [ent_ints hk (by decide)] at he
  exact va_alen hz.exec hz.code hz.K hw.1 a 1 he (ty := .int) rfl (v := Int32.ofNat (mG M a)) rfl hd (kk H locs ls hw hl)
/-- what a store into an array leaves of the world -/
theorem w_arr {a : Nat} {M' : Mem} {e : va_E} (hn : mN M' = mN M) (hK : ∀ b, mK M' b = mK M b) (hG : ∀ b, mG M' b = mG M b) (hR : ∀ b, b ≠ a → ∀ j, mR M' b j = mR M b j) (hI : ∀ b, b ≠ a → ∀ j, mI M' b j = mI M b j) (hL : ∀ b, b ≠ a → ∀ j, mL M' b j = mL M b j) (he : ent z.cy z.ad M' a = e) : (wl z.cy z.ad M).set a (z.ad a, e) = wl z.cy z.ad M' :=
  wl_set hn (fun j hj => ent_same (hK j) (hG j) (hR j hj) (hI j hj) (hL j hj)) he
theorem stI_row (a i : Nat) (x : Int32) : mI (stI M a i x) a = upd (mI M a) i x := by
  funext j
  by_cases h : j = i <;> simp [mI_stI, upd, h]
theorem stL_row (a i : Nat) (x : Int64) : mL (stL M a i x) a = vp_updL (mL M a) i x := by
  funext j
  by_cases h : j = i <;> simp [mL_stL, vp_updL, h]
theorem v_ist (hz : Zok z fx al own nm cc rt nL r mc ms rv N) {a : Nat} {i x y : Int32} {c : Nat} (hc : c = 13 ∨ c = 14 ∨ c = 16) (ha : a < mN M) (hk : mK M a = c)
    (kk : V z (pc + 1) lv st (stI M a i.toNatClampNeg y) nc ns)
    (kit : ∀ (H : Heap) (locs : List Loc) (ls : Array Slot), Wd z M H locs → (∀ H1 : Heap, H1[z.ad a]? = some ((vp_cell (z.cy c) (mG M a, .inl (mI M a))).setSlot i.toNatClampNeg (.int y)) → H1.size = H.size → (∀ q, q ≠ z.ad a → H1[q]? = H[q]?) → W z.p z.l z.e z.R z.s z.m z.a z.b z.mt z.c H1 (locs ++ [⟨z.ad a, i.toNatClampNeg⟩]) nc ns z.Q (F0 z.m (pc + 1) ls (st.map (tv z.ad z.ex)))) → W z.p z.l z.e z.R z.s z.m z.a z.b z.mt z.c H locs nc ns z.Q (F0 z.m pc ls (.int x :: .int i :: .ref (z.ad a) :: st.map (tv z.ad z.ex)))) :
    V z pc lv (.int x :: .int i :: .ref a :: st) M nc ns := by
  intro H locs ls hw hl
  have he := wl_get (cy := z.cy) (ad := z.ad) ha
  rw [ent_ints hk hc] at he
  have hD := hz.D M
  refine kit H locs ls hw fun H1 e z1 oq => ?_
  have hat : va_at z.D vwCl (z.ad a, .inl (z.cy c, (mG M a, .inl (upd (mI M a) i.toNatClampNeg y)))) H1 := by
    show H1[z.ad a]? = some (vp_cell _ _)
    rw [e, vp_cell_i, vp_cell_i, arrV_store]
    congr 2
    funext q
    by_cases hq : q = i.toNatClampNeg
    · subst hq
      simp [updV, upd]
    · simp [updV, upd, hq]
  have hP' := hw.1.set hD he hat oq
  rw [w_arr (M := M) (M' := stI M a i.toNatClampNeg y) rfl (fun _ => rfl) (fun _ => rfl) (fun _ _ _ => rfl) (fun b hb j => up2_ne (Or.inl hb)) (fun _ _ _ => rfl) (by rw [ent_ints (M := stI M a i.toNatClampNeg y) hk hc, stI_row]; rfl)] at hP'
  exact kk H1 _ ls ⟨hP', hw.2.1.put z1 oq (hD.2 a _ he), fun hal j => by rw [mN_stI, z1]; exact hw.2.2 hal j⟩ hl
theorem v_iastore (hz : Zok z fx al own nm cc rt nL r mc ms rv N) {a : Nat} {i x : Int32} (hd : decode cc pc = .ok (.iastore, 1)) (ha : a < mN M) (hk : mK M a = 14) (hin : inb i (mG M a) = true) (kk : V z (pc + 1) lv st (stI M a i.toNatClampNeg x) nc ns) : V z pc lv (.int x :: .int i :: .ref a :: st) M nc ns := by
  refine v_ist hz (c := 14) (by decide) ha hk kk fun H locs ls hw k => ?_
  have he := wl_get (cy := z.cy) (ad := z.ad) ha
  rw [ent_ints hk (by decide)] at he
  exact W.iast hz.exec hz.code (hw.1 a _ he) ((hz.K.2 1 _ rfl).1 (mG M a) (fun j => .int (mI M a j))) (fun q => by cases q) (by show ¬ (i < 0 ∨ (arrV _ _ _).slots.size ≤ _); rw [arrV_size]; exact inb_in hin) rfl rfl hd k
theorem v_bastore (hz : Zok z fx al own nm cc rt nL r mc ms rv N) {a : Nat} {i x : Int32} (hd : decode cc pc = .ok (.bastore, 1)) (ha : a < mN M) (hk : mK M a = 13) (hin : inb i (mG M a) = true) (kk : V z (pc + 1) lv st (stI M a i.toNatClampNeg x.toInt8.toInt32) nc ns) : V z pc lv (.int x :: .int i :: .ref a :: st) M nc ns := by
  refine v_ist hz (c := 13) (by decide) ha hk kk fun H locs ls hw k => ?_
  have he := wl_get (cy := z.cy) (ad := z.ad) ha
  rw [ent_ints hk (by decide)] at he
  exact W.bast hz.exec hz.code (hw.1 a _ he) ((hz.K.2 0 _ rfl).1 (mG M a) (fun j => .int (mI M a j))) (fun q => by cases q) (by show ¬ (i < 0 ∨ (arrV _ _ _).slots.size ≤ _); rw [arrV_size]; exact inb_in hin) rfl rfl hd k
theorem v_zastore (hz : Zok z fx al own nm cc rt nL r mc ms rv N) {a : Nat} {i x : Int32} (hx : x = 0 ∨ x = 1) (hd : decode cc pc = .ok (.bastore, 1)) (ha : a < mN M) (hk : mK M a = 16) (hin : inb i (mG M a) = true) (kk : V z (pc + 1) lv st (stI M a i.toNatClampNeg x) nc ns) : V z pc lv (.int x :: .int i :: .ref a :: st) M nc ns := by
  refine v_ist hz (c := 16) (by decide) ha hk kk fun H locs ls hw k => ?_
  have he := wl_get (cy := z.cy) (ad := z.ad) ha
  rw [ent_ints hk (by decide)] at he
  refine W.zast hz.exec hz.code (hw.1 a _ he) ((hz.K.2 3 _ rfl).1 (mG M a) (fun j => .int (mI M a j))) (fun q => by cases q) (by show ¬ (i < 0 ∨ (arrV _ _ _).slots.size ≤ _); rw [arrV_size]; exact inb_in hin) rfl rfl hd fun H1 e z1 oq => k H1 ?_ z1 oq
  rw [e]
  rcases hx with rfl | rfl <;> rfl
theorem v_lastore (hz : Zok z fx al own nm cc rt nL r mc ms rv N) {a : Nat} {i : Int32} {x : Int64} (hd : decode cc pc = .ok (.lastore, 1)) (ha : a < mN M) (hk : mK M a = 15) (hin : inb i (mG M a) = true) (kk : V z (pc + 1) lv st (stL M a i.toNatClampNeg x) nc ns) : V z pc lv (.long x :: .int i :: .ref a :: st) M nc ns := by
  intro H locs ls hw hl
  have he := wl_get (cy := z.cy) (ad := z.ad) ha
  rw [ent_longs hk] at he
  have hD := hz.D M
  refine W.last hz.exec hz.code (hw.1 a _ he) ((hz.K.2 2 _ rfl).1 (mG M a) (fun j => .long (mL M a j))) (fun q => by cases q) (by show ¬ (i < 0 ∨ (arrV _ _ _).slots.size ≤ _); rw [arrV_size]; exact inb_in hin) rfl rfl hd fun H1 e z1 oq => ?_
  have hat : va_at z.D vwCl (z.ad a, .inl (z.cy 15, (mG M a, .inr (.inl (vp_updL (mL M a) i.toNatClampNeg x))))) H1 := by
    show H1[z.ad a]? = some (vp_cell _ _)
    rw [e, vp_cell_l, vp_cell_l, arrV_store]
    congr 2
    funext q
    by_cases hq : q = i.toNatClampNeg
    · subst hq
      simp [updV, vp_updL]
    · simp [updV, vp_updL, hq]
  have hP' := hw.1.set hD he hat oq
  rw [w_arr (M := M) (M' := stL M a i.toNatClampNeg x) rfl (fun _ => rfl) (fun _ => rfl) (fun _ _ _ => rfl) (fun _ _ _ => rfl) (fun b hb j => up2_ne (Or.inl hb)) (by rw [ent_longs (M := stL M a i.toNatClampNeg x) hk, stL_row]; rfl)] at hP'
  exact kk H1 _ ls ⟨hP', hw.2.1.put z1 oq (hD.2 a _ he), fun hal j => by rw [mN_stL, z1]; exact hw.2.2 hal j⟩ hl
end RULES3
end
section
/-! ===== ends, entries, calls ===== -/
section ENDS
variable {z : Zx} {fx : Fx} {al : Bool} {own nm : String} {cc : ByteArray} {rt : Option FieldType} {nL r mc ms : Nat} {rv : Option Value} {N : Mem} {pc : Nat} {lv : List (Option Value)} {st : List Value} {M : Mem} {nc ns : Nat}
theorem v_iret {x : Int32} (hz : Zok z fx al own nm cc (some .int) nL r mc ms (some (.int x)) M) (hd : decode cc pc = .ok (.ireturn, 1)) (h1 : nc ≤ mc) (h2 : ns ≤ ms) : V z pc lv [.int x] M nc ns := by
  intro H locs ls hw hl
  refine W.widen (k := mc) (n := ms) h1 h2 ?_
  rw [hz.eQ]
  exact W.iret hz.exec hz.code hz.ret (fun t ht hW => ⟨⟨rfl, by rw [ht]; exact hw.1, fun hal j => by rw [ht]; exact hw.2.2 hal j⟩, hw.2.1.F ht⟩) hw.2.1.2.2 hd hz.locks
theorem v_zret {x : Int32} (hz : Zok z fx al own nm cc (some .boolean) nL r mc ms (some (.int x)) M) (hx : x = 0 ∨ x = 1) (hd : decode cc pc = .ok (.ireturn, 1)) (h1 : nc ≤ mc) (h2 : ns ≤ ms) : V z pc lv [.int x] M nc ns := by
  intro H locs ls hw hl
  refine W.widen (k := mc) (n := ms) h1 h2 ?_
  rw [hz.eQ]
  exact W.zret hz.exec hz.code hz.ret (by rcases hx with rfl | rfl <;> rfl) (fun t ht hW => ⟨⟨rfl, by rw [ht]; exact hw.1, fun hal j => by rw [ht]; exact hw.2.2 hal j⟩, hw.2.1.F ht⟩) hw.2.1.2.2 hd hz.locks
theorem v_lret {x : Int64} (hz : Zok z fx al own nm cc (some .long) nL r mc ms (some (.long x)) M) (hd : decode cc pc = .ok (.lreturn, 1)) (h1 : nc ≤ mc) (h2 : ns ≤ ms) : V z pc lv [.long x] M nc ns := by
  intro H locs ls hw hl
  refine W.widen (k := mc) (n := ms) h1 h2 ?_
  rw [hz.eQ]
  exact W.lret hz.exec hz.code hz.ret (fun t ht hW => ⟨⟨rfl, by rw [ht]; exact hw.1, fun hal j => by rw [ht]; exact hw.2.2 hal j⟩, hw.2.1.F ht⟩) hw.2.1.2.2 hd hz.locks
theorem v_vret (hz : Zok z fx al own nm cc none nL r mc ms none M) (hd : decode cc pc = .ok (.return_, 1)) (h1 : nc ≤ mc) (h2 : ns ≤ ms) : V z pc lv [] M nc ns := by
  intro H locs ls hw hl
  refine W.widen (k := mc) (n := ms) h1 h2 ?_
  rw [hz.eQ]
  exact W.vret hz.exec hz.code hz.ret (fun t ht hW => ⟨⟨rfl, by rw [ht]; exact hw.1, fun hal j => by rw [ht]; exact hw.2.2 hal j⟩, hw.2.1.F ht⟩) hw.2.1.2.2 hd hz.locks
theorem v_aret {x : Nat} {C : String} (hz : Zok z fx al own nm cc (some (.object C)) nL r mc ms (some (.ref x)) M) (hd : decode cc pc = .ok (.areturn, 1)) (h1 : nc ≤ mc) (h2 : ns ≤ ms) : V z pc lv [.ref x] M nc ns := by
  intro H locs ls hw hl
  refine W.widen (k := mc) (n := ms) h1 h2 ?_
  rw [hz.eQ]
  exact W.aret hz.exec hz.code hz.ret (Or.inl ⟨C, rfl⟩) (Or.inr ⟨_, rfl⟩) (fun t ht hW => ⟨⟨rfl, by rw [ht]; exact hw.1, fun hal j => by rw [ht]; exact hw.2.2 hal j⟩, hw.2.1.F ht⟩) hw.2.1.2.2 hd hz.locks
/-- a contract out of the walk of its body -/
theorem ct_of {y : MethodName} {av : List Value} (hy : plainName y.cls = true) (hlen : (lg_sl av).length ≤ nL) (hlay : lay av ++ List.replicate (nL - (lay av).length) none = lv) (hll : lv.length = nL)
    (body : ∀ z : Zx, Zok z fx al y.cls y.name cc rt nL r mc ms rv N → V z 0 lv [] M 0 0) : Ct fx y cc nL rt r mc ms al av M rv N := by
  intro ad hinj
  refine Met.ofW (cc := cc) (maxL := nL) (ret := rt) hy rfl ?_
  intro p e s m args below meth c s₁ B hml hv
  obtain ⟨rfl, hP, hK, hal, hE⟩ := hv
  have hts := atoms_spec (ws := Cond.code y cc nL rt :: BIG) B.pre
  have hcat : ∀ vs : List Value, (lg_sl (vs.map (tv ad fx.2.2.2))).length = (lg_sl vs).length := by
    intro vs
    induction vs with
    | nil => rfl
    | cons v vs ih =>
      simp only [lg_sl, List.map_cons, List.flatMap_cons, List.length_append, tv_cat] at ih ⊢
      rw [ih]
      split <;> rfl
  have hl := lv_entry (av.map (tv ad fx.2.2.2)) (n := nL) (by rw [hcat]; exact hlen)
  rw [lg_entry_eq]
  generalize (lg_sl (av.map (tv ad fx.2.2.2)) ++ List.replicate (nL - (lg_sl (av.map (tv ad fx.2.2.2))).length) Slot.unset).toArray = ls at hl ⊢
  refine body (p, fx.1, e, (headSpec (Cond.code y cc nL rt :: BIG) (rk r mc ms)).room, s, m, (av.map (tv ad fx.2.2.2)).toArray, below, meth, c, fx, ad, al, MQ below (Qx fx ad al rv N) (av.map (tv ad fx.2.2.2)).toArray s mc ms (Ad ad)) ⟨B.exec, B.bytes, hml, findClass_of_methodNamed B.named, fun w hw => hts w (List.mem_cons_of_mem _ hw), hK, hinj, B.notSynchronized, B.returns, rfl, hE, rfl, rfl, (name_of_methodNamed B.named B.method).1, rfl, rfl⟩ s.heap [] ls ⟨hP, va_S.rf, hal⟩ ⟨hl.1.trans hll.symm, hl.2.1, fun i v hi => ?_⟩
  have hi2 : (lay av)[i]? = some (some v) := by
    rw [← hlay] at hi
    by_cases h : i < (lay av).length
    · rwa [List.getElem?_append_left h] at hi
    · rw [List.getElem?_append_right (by omega)] at hi
      have := List.mem_of_getElem? hi
      simp at this
  have h3 := lay_mem (ad := ad) (ex := fx.2.2.2) av 0 i v hi2
  rw [Nat.zero_add] at h3
  exact hl.2.2 _ h3
theorem Px_calling {ad : Nat → Nat} {U : State} (h : Px fx ad al M U) (g : JFrame) (mk : MethodId) (a : Array Value) : Px fx ad al M (U.calling g mk a) :=
  ⟨h.1, va_K.moved (u := U) (U := U.calling g mk a) (Vm.Alike.refl U.vm) h.2.1, h.2.2.1, Ext.go (U := U.calling g mk a) h.2.2.2 (State.WarmedH.refl U) (fun _ _ _ => rfl)⟩
theorem Px_blind {ad : Nat → Nat} {av : List Value} : FrameBlind (va_Pc av (Px fx ad al M)) := fun a U g mk q => ⟨q.1, Px_calling q.2 g mk a⟩
theorem Px_at (hz : Zok z fx al own nm cc rt nL r mc ms rv N) {H : Heap} {locs : List Loc} (hw : Wd z M H locs) {U : State} (hU : U.heap = H) (hW : z.s.WarmedH U.vm) : Px z.fx z.ad z.al M U := by
  subst hU
  exact ⟨hw.1, va_K.moved hW.alike hz.K, hw.2.2, hz.ext.go hW hw.2.1.2.1⟩
theorem v_run {rv1 : Option Value} {M1 : Mem} {mc1 ms1 : Nat} {st0 : List Value} {ar : Array Value}
    (hr : ∀ (H : Heap) (locs : List Loc) (ls : Array Slot), Wd z M H locs → lvh z ls lv → va_Run z.p z.l z.e z.R z.s z.m z.a z.b z.mt z.c H locs nc ns mc1 ms1 (F0 z.m pc ls (st0.map (tv z.ad z.ex))) (st.map (tv z.ad z.ex)) (Qx z.fx z.ad z.al rv1 M1 ar) (Ad z.ad))
    (kk : V z (pc + 3) lv (rv1.toList ++ st) M1 (nc + mc1) (ns + ms1)) : V z pc lv st0 M nc ns := by
  intro H locs ls hw hl T hT X
  obtain ⟨v, st₀, t, T', L, h0, X', hL, e1, e2, ⟨⟨hv, hP, ha⟩, hsz, hk⟩, go⟩ := hr H locs ls hw hl T hT X
  cases hv
  rw [h0] at hsz hk
  have hS := hw.2.1
  obtain ⟨t2, a1, b1⟩ := kk T'.heap (locs ++ L) ls ⟨by rw [e1]; exact hP, ⟨Nat.le_trans hS.1 (by rw [e1]; exact hsz), fun q h1 h2 => by rw [e1, hk q (Nat.lt_of_lt_of_le h1 hS.1) h2]; exact hS.2.1 q h1 h2, fun q hq => by
      rcases List.mem_append.mp hq with h | h
      · exact hS.2.2 q h
      · exact hL q h⟩, by rw [e1]; exact ha⟩ hl T' rfl X'
  refine ⟨t2, go t2 ?_, b1⟩
  have : (rv1.toList ++ st).map (tv z.ad z.ex) = (rv1.map (tv z.ad z.ex)).toList ++ st.map (tv z.ad z.ex) := by cases rv1 <;> simp
  rw [this] at a1
  exact a1
/-- a call's words: an instance method of the class itself -/
def VL (own : String) (idx : Nat) (C : String) (y : MethodName) (cc : ByteArray) (maxL : Nat) (rt : Option FieldType) (n : Nat) : Prop :=
  Cond.methodLink own idx y ∈ BIG ∧ Cond.instanceMethod y ∈ BIG ∧ Cond.selects C y y ∈ BIG ∧ Cond.initialized C ∈ BIG ∧ Cond.code y cc maxL rt ∈ BIG ∧ (y.cls = C ∧ y.cls ≠ "java/lang/invoke/MethodHandle" ∧ y.cls ≠ "java/lang/invoke/VarHandle" ∧ (parseMethodDescriptor y.desc).map (fun d => d.parameters.length) = some n) ∧ maxL ≤ 21
theorem big_ws {ws : List Cond} (h : ∀ w ∈ ws, w ∈ BIG) : GoodIn BIG ws := fun w hw => BIG_good w (h w hw)
theorem v_callV (hz : Zok z fx al own nm cc rt nL (r + 1) mc ms rv N) {idx ci n maxL b mc1 ms1 : Nat} {C : String} {T : u_T} {k : Nat} {y : MethodName} {c1 : ByteArray} {rt1 : Option FieldType} {As : List Value} {rv1 : Option Value} {M1 : Mem} {st0 : List Value}
    (hv : VL own idx C y c1 maxL rt1 n) (hM : Ct fx y c1 maxL rt1 r mc1 ms1 al (.ref b :: As) M rv1 M1) (hci : vwCl[ci]? = some (C, T, k)) (hci13 : ci < 13) (hb : b < mN M) (hkb : mK M b = ci) (hn : As.length = n) (hll : lv.length = nL) (hst0 : st0 = As.reverse ++ .ref b :: st) (hroom : (st.map fun v => v.category).sum ≤ 8) (hc : nc + mc1 ≤ mc ∧ ns + ms1 ≤ ms) (hd : decode cc pc = .ok (.invokevirtual idx, 3))
    (kk : V z (pc + 3) lv (rv1.toList ++ st) M1 (nc + mc1) (ns + ms1)) : V z pc lv st0 M nc ns := by
  obtain ⟨w1, w2, w3, w4, w5, hdn, hml⟩ := hv
  refine v_run (ar := (Value.ref (z.ad b) :: As.map (tv z.ad z.ex)).toArray) (fun H locs ls hw hl => ?_) kk
  have he := wl_get (cy := z.cy) (ad := z.ad) hb
  rw [ent_obj hkb hci13] at he
  rw [← hz.efx, ← hz.eal] at hM
  have hM' := hM z.ad hz.inj
  rw [← hz.el] at hM'
  refine va_runV (As := As.map (tv z.ad z.ex)) (Ts := BIG) (n := n) ⟨hz.exec, hz.code, hz.nl, hz.hown, hz.ts⟩ hM' (cwV n hz.ts (big_ws (ws := wsV own idx C y (Cond.code y c1 maxL rt1 :: BIG)) ?_) rfl rfl rfl hdn ⟨by rw [hz.room]; exact Nat.le_refl _, by rw [hz.room]; show 8 + (maxL + 11) + 40 * r ≤ 40 * (r + 1); omega⟩) ⟨Px_blind, va_recv hz.K hw.1 (ci := ci) (q0 := b) hci he, fun U hU hW => ⟨by rw [List.map_cons]; rfl, Px_at hz hw hU hW⟩⟩ rfl (by rw [List.length_map]; exact hn) (hl.1.trans hll) (by rw [hst0]; simp [tv]) (lv_room (by simpa [Function.comp_def, tv_cat] using hroom)) hd (by rw [hz.room]; exact hc)
  intro w hw
  simp only [wsV, List.mem_append, List.mem_cons, List.not_mem_nil, or_false] at hw
  rcases hw with (rfl | rfl | rfl | rfl) | rfl | h
  · exact w1
  · exact w2
  · exact w3
  · exact w4
  · exact w5
  · exact h
end ENDS
end
section
/-! ===== further calls ===== -/
section CALLS2
variable {z : Zx} {fx : Fx} {al : Bool} {own nm : String} {cc : ByteArray} {rt : Option FieldType} {nL r mc ms : Nat} {rv : Option Value} {N : Mem} {pc : Nat} {lv : List (Option Value)} {st : List Value} {M : Mem} {nc ns : Nat}
theorem rk_le {r maxL mc1 ms1 : Nat} (h : maxL ≤ 21) : (rk r mc1 ms1).frames + 1 ≤ (rk (r + 1) mc ms).frames ∧ 8 + (maxL + 11) + (rk r mc1 ms1).locals ≤ (rk (r + 1) mc ms).locals := ⟨Nat.le_refl _, by show 8 + (maxL + 11) + 40 * r ≤ 40 * (r + 1); omega⟩
/-- a static method of the class itself -/
def SL (own : String) (idx : Nat) (y : MethodName) (cc : ByteArray) (maxL : Nat) (rt : Option FieldType) (n : Nat) : Prop :=
  Cond.methodLink own idx y ∈ BIG ∧ Cond.static y ∈ BIG ∧ Cond.initialized own ∈ BIG ∧ Cond.code y cc maxL rt ∈ BIG ∧ (y.cls = own ∧ y.cls ≠ "java/lang/invoke/MethodHandle" ∧ y.cls ≠ "java/lang/invoke/VarHandle" ∧ (parseMethodDescriptor y.desc).map (fun d => d.parameters.length) = some n) ∧ maxL ≤ 21
theorem v_callS (hz : Zok z fx al own nm cc rt nL (r + 1) mc ms rv N) {idx n maxL mc1 ms1 : Nat} {y : MethodName} {c1 : ByteArray} {rt1 : Option FieldType} {As : List Value} {rv1 : Option Value} {M1 : Mem} {st0 : List Value}
    (hv : SL own idx y c1 maxL rt1 n) (hM : Ct fx y c1 maxL rt1 r mc1 ms1 al As M rv1 M1) (hn : As.length = n) (hll : lv.length = nL) (hst0 : st0 = As.reverse ++ st) (hroom : (st.map fun v => v.category).sum ≤ 8) (hc : nc + mc1 ≤ mc ∧ ns + ms1 ≤ ms) (hd : decode cc pc = .ok (.invokestatic idx, 3))
    (kk : V z (pc + 3) lv (rv1.toList ++ st) M1 (nc + mc1) (ns + ms1)) : V z pc lv st0 M nc ns := by
  obtain ⟨w1, w2, w3, w5, hdn, hml⟩ := hv
  refine v_run (ar := (As.map (tv z.ad z.ex)).toArray) (fun H locs ls hw hl => ?_) kk
  rw [← hz.efx, ← hz.eal] at hM
  have hM' := hM z.ad hz.inj
  rw [← hz.el] at hM'
  refine va_runS (As := As.map (tv z.ad z.ex)) (Ts := BIG) (n := n) ⟨hz.exec, hz.code, hz.nl, hz.hown, hz.ts⟩ hM' (cwS n hz.ts (big_ws (ws := wsS own idx y (Cond.code y c1 maxL rt1 :: BIG)) ?_) rfl rfl rfl hdn (by rw [hz.room]; exact rk_le hml)) ⟨Px_blind, fun U hU hW => ⟨rfl, Px_at hz hw hU hW⟩⟩ rfl (by rw [List.length_map]; exact hn) (hl.1.trans hll) (by rw [hst0]; simp) (lv_room (by simpa [Function.comp_def, tv_cat] using hroom)) hd (by rw [hz.room]; exact hc)
  intro w hw
  simp only [wsS, List.mem_append, List.mem_cons, List.not_mem_nil, or_false] at hw
  rcases hw with (rfl | rfl | rfl) | rfl | h
  · exact w1
  · exact w2
  · exact w3
  · exact w5
  · exact h
/-- a nest mate's private method, or constructor -/
def NL (own : String) (idx : Nat) (host : String) (w : Cond) (y : MethodName) (cc : ByteArray) (maxL : Nat) (rt : Option FieldType) (n : Nat) : Prop :=
  (own, idx, y, host) ∈ xNest ∧ w ∈ BIG ∧ Cond.initialized y.cls ∈ BIG ∧ Cond.code y cc maxL rt ∈ BIG ∧ (y.cls ≠ "java/lang/invoke/MethodHandle" ∧ y.cls ≠ "java/lang/invoke/VarHandle" ∧ (parseMethodDescriptor y.desc).map (fun d => d.parameters.length) = some n) ∧ maxL ≤ 21
theorem v_callSN (hz : Zok z fx al own nm cc rt nL (r + 1) mc ms rv N) {idx n maxL mc1 ms1 : Nat} {host : String} {y : MethodName} {c1 : ByteArray} {rt1 : Option FieldType} {As : List Value} {rv1 : Option Value} {M1 : Mem} {st0 : List Value}
    (hv : NL own idx host (.static y) y c1 maxL rt1 n) (hM : Ct fx y c1 maxL rt1 r mc1 ms1 al As M rv1 M1) (hn : As.length = n) (hll : lv.length = nL) (hst0 : st0 = As.reverse ++ st) (hroom : (st.map fun v => v.category).sum ≤ 8) (hc : nc + mc1 ≤ mc ∧ ns + ms1 ≤ ms) (hd : decode cc pc = .ok (.invokestatic idx, 3))
    (kk : V z (pc + 3) lv (rv1.toList ++ st) M1 (nc + mc1) (ns + ms1)) : V z pc lv st0 M nc ns := by
  obtain ⟨w1, w2, w3, w5, hdn, hml⟩ := hv
  refine v_run (ar := (As.map (tv z.ad z.ex)).toArray) (fun H locs ls hw hl => ?_) kk
  rw [← hz.efx, ← hz.eal] at hM
  have hM' := hM z.ad hz.inj
  rw [← hz.el] at hM'
  have hg : ∀ w ∈ Cond.code y c1 maxL rt1 :: BIG, w ∈ BIG := fun w h => (List.mem_cons.mp h).elim (fun e => e ▸ w5) id
  exact va_runSN (As := As.map (tv z.ad z.ex)) (Ts := BIG) (n := n) ⟨hz.exec, hz.code, hz.nl, hz.hown, hz.ts⟩ hM' ⟨va_cnB n hz.ts (big_ws hg) rfl rfl rfl (hz.ext.1 _ w1) (hz.ts _ w3) hdn (by rw [hz.room]; exact rk_le hml), hz.ts _ w2, trivial⟩ ⟨Px_blind, fun U hU hW => ⟨rfl, Px_at hz hw hU hW⟩⟩ rfl (by rw [List.length_map]; exact hn) (hl.1.trans hll) (by rw [hst0]; simp) (lv_room (by simpa [Function.comp_def, tv_cat] using hroom)) hd (by rw [hz.room]; exact hc)
theorem v_callIN (hz : Zok z fx al own nm cc rt nL (r + 1) mc ms rv N) {idx n maxL mc1 ms1 b : Nat} {host : String} {y : MethodName} {c1 : ByteArray} {As : List Value} {M1 : Mem} {st0 : List Value}
    (hv : NL own idx host (.instanceMethod y) y c1 maxL none n) (hy : y.name = "<init>") (hM : Ct fx y c1 maxL none r mc1 ms1 al (.ref b :: As) M none M1) (hn : As.length = n) (hll : lv.length = nL) (hst0 : st0 = As.reverse ++ .ref b :: st) (hroom : (st.map fun v => v.category).sum ≤ 8) (hc : nc + mc1 ≤ mc ∧ ns + ms1 ≤ ms) (hd : decode cc pc = .ok (.invokespecial idx, 3))
    (kk : V z (pc + 3) lv st M1 (nc + mc1) (ns + ms1)) : V z pc lv st0 M nc ns := by
  obtain ⟨w1, w2, w3, w5, hdn, hml⟩ := hv
  refine v_run (rv1 := none) (ar := (Value.ref (z.ad b) :: As.map (tv z.ad z.ex)).toArray) (fun H locs ls hw hl => ?_) kk
  rw [← hz.efx, ← hz.eal] at hM
  have hM' := hM z.ad hz.inj
  rw [← hz.el] at hM'
  have hg : ∀ w ∈ Cond.code y c1 maxL none :: BIG, w ∈ BIG := fun w h => (List.mem_cons.mp h).elim (fun e => e ▸ w5) id
  exact va_runIN (As := As.map (tv z.ad z.ex)) (Ts := BIG) (n := n) ⟨hz.exec, hz.code, hz.nl, hz.hown, hz.ts⟩ hM' ⟨va_cnB n hz.ts (big_ws hg) rfl rfl rfl (hz.ext.1 _ w1) (hz.ts _ w3) hdn (by rw [hz.room]; exact rk_le hml), hy, hz.ts _ w2⟩ ⟨Px_blind, fun U hU hW => ⟨rfl, Px_at hz hw hU hW⟩⟩ rfl (by rw [List.length_map]; exact hn) (hl.1.trans hll) (by rw [hst0]; simp [tv]) (lv_room (by simpa [Function.comp_def, tv_cat] using hroom)) hd (by rw [hz.room]; exact hc)
/-- a constructor that is no private one -/
def IL (own : String) (idx : Nat) (y : MethodName) (cc : ByteArray) (maxL n : Nat) : Prop :=
  Cond.methodLink own idx y ∈ BIG ∧ Cond.instanceMethod y ∈ BIG ∧ Cond.initialized y.cls ∈ BIG ∧ Cond.code y cc maxL none ∈ BIG ∧ y.name = "<init>" ∧ (y.cls ≠ "java/lang/invoke/MethodHandle" ∧ y.cls ≠ "java/lang/invoke/VarHandle" ∧ (parseMethodDescriptor y.desc).map (fun d => d.parameters.length) = some n) ∧ maxL ≤ 21
theorem v_callI (hz : Zok z fx al own nm cc rt nL (r + 1) mc ms rv N) {idx n maxL mc1 ms1 b : Nat} {y : MethodName} {c1 : ByteArray} {As : List Value} {M1 : Mem} {st0 : List Value}
    (hv : IL own idx y c1 maxL n) (hM : Ct fx y c1 maxL none r mc1 ms1 al (.ref b :: As) M none M1) (hn : As.length = n) (hll : lv.length = nL) (hst0 : st0 = As.reverse ++ .ref b :: st) (hroom : (st.map fun v => v.category).sum ≤ 8) (hc : nc + mc1 ≤ mc ∧ ns + ms1 ≤ ms) (hd : decode cc pc = .ok (.invokespecial idx, 3))
    (kk : V z (pc + 3) lv st M1 (nc + mc1) (ns + ms1)) : V z pc lv st0 M nc ns := by
  obtain ⟨w1, w2, w3, w5, hy, hdn, hml⟩ := hv
  refine v_run (rv1 := none) (ar := (Value.ref (z.ad b) :: As.map (tv z.ad z.ex)).toArray) (fun H locs ls hw hl => ?_) kk
  rw [← hz.efx, ← hz.eal] at hM
  have hM' := hM z.ad hz.inj
  rw [← hz.el] at hM'
  have hg : ∀ w ∈ Cond.code y c1 maxL none :: BIG, w ∈ BIG := fun w h => (List.mem_cons.mp h).elim (fun e => e ▸ w5) id
  exact va_runI (As := As.map (tv z.ad z.ex)) (Ts := BIG) (n := n) ⟨hz.exec, hz.code, hz.nl, hz.hown, hz.ts⟩ hM' (cwI n hz.ts (big_ws hg) rfl rfl rfl (hz.ts _ w3) (hz.ts _ w1) (hz.ts _ w2) hy hdn (by rw [hz.room]; exact rk_le hml)) ⟨Px_blind, fun U hU hW => ⟨rfl, Px_at hz hw hU hW⟩⟩ rfl (by rw [List.length_map]; exact hn) (hl.1.trans hll) (by rw [hst0]; simp [tv]) (lv_room (by simpa [Function.comp_def, tv_cat] using hroom)) hd (by rw [hz.room]; exact hc)
/-- a virtual call: what the reference names is owner's, what runs is y -/
def UL (own : String) (idx : Nat) (C owner : String) (x y : MethodName) (cc : ByteArray) (maxL : Nat) (rt : Option FieldType) (n : Nat) : Prop :=
  Cond.methodLink own idx x ∈ BIG ∧ Cond.sameMethod x.cls owner x.name x.desc ∈ BIG ∧ Cond.instanceMethod ⟨owner, x.name, x.desc⟩ ∈ BIG ∧ Cond.selects C x y ∈ BIG ∧ Cond.instanceMethod y ∈ BIG ∧ Cond.initialized y.cls ∈ BIG ∧ Cond.code y cc maxL rt ∈ BIG ∧ (∃ b0 m0 r0, Cond.code ⟨owner, x.name, x.desc⟩ b0 m0 r0 ∈ BIG) ∧ (owner ≠ "java/lang/invoke/MethodHandle" ∧ owner ≠ "java/lang/invoke/VarHandle" ∧ (parseMethodDescriptor x.desc).map (fun d => d.parameters.length) = some n) ∧ maxL ≤ 21
theorem v_callU (hz : Zok z fx al own nm cc rt nL (r + 1) mc ms rv N) {idx ci n maxL b mc1 ms1 : Nat} {C owner : String} {T : u_T} {k : Nat} {x y : MethodName} {c1 : ByteArray} {rt1 : Option FieldType} {As : List Value} {rv1 : Option Value} {M1 : Mem} {st0 : List Value}
    (hv : UL own idx C owner x y c1 maxL rt1 n) (hM : Ct fx y c1 maxL rt1 r mc1 ms1 al (.ref b :: As) M rv1 M1) (hci : vwCl[ci]? = some (C, T, k)) (hci13 : ci < 13) (hb : b < mN M) (hkb : mK M b = ci) (hn : As.length = n) (hll : lv.length = nL) (hst0 : st0 = As.reverse ++ .ref b :: st) (hroom : (st.map fun v => v.category).sum ≤ 8) (hc : nc + mc1 ≤ mc ∧ ns + ms1 ≤ ms) (hd : decode cc pc = .ok (.invokevirtual idx, 3))
    (kk : V z (pc + 3) lv (rv1.toList ++ st) M1 (nc + mc1) (ns + ms1)) : V z pc lv st0 M nc ns := by
  obtain ⟨w1, w2, w3, w4, w5, w6, w7, ⟨b0, m0, r0, w8⟩, hdn, hml⟩ := hv
  refine v_run (ar := (Value.ref (z.ad b) :: As.map (tv z.ad z.ex)).toArray) (fun H locs ls hw hl => ?_) kk
  have he := wl_get (cy := z.cy) (ad := z.ad) hb
  rw [ent_obj hkb hci13] at he
  rw [← hz.efx, ← hz.eal] at hM
  have hM' := hM z.ad hz.inj
  rw [← hz.el] at hM'
  refine va_runU (As := As.map (tv z.ad z.ex)) (Ts := BIG) (n := n) ⟨hz.exec, hz.code, hz.nl, hz.hown, hz.ts⟩ hM' (va_cwO n hz.ts (big_ws (ws := va_wsO own idx C owner x y (Cond.code y c1 maxL rt1 :: BIG)) ?_) rfl rfl rfl w8 hdn (by rw [hz.room]; exact rk_le hml)) ⟨Px_blind, va_recv hz.K hw.1 (ci := ci) (q0 := b) hci he, fun U hU hW => ⟨by rw [List.map_cons]; rfl, Px_at hz hw hU hW⟩⟩ rfl (by rw [List.length_map]; exact hn) (hl.1.trans hll) (by rw [hst0]; simp [tv]) (lv_room (by simpa [Function.comp_def, tv_cat] using hroom)) hd (by rw [hz.room]; exact hc)
  intro w hw
  simp only [va_wsO, List.mem_append, List.mem_cons, List.not_mem_nil, or_false] at hw
  rcases hw with (rfl | rfl | rfl | rfl | rfl | rfl) | rfl | h
  · exact w1
  · exact w2
  · exact w3
  · exact w4
  · exact w5
  · exact w6
  · exact w7
  · exact h
/-- a super's method: the reference names the class right above, the method is that one's or the one's above it -/
def UPL (own : String) (idx : Nat) (x y : MethodName) (cc : ByteArray) (maxL : Nat) (rt : Option FieldType) (n : Nat) : Prop :=
  Cond.methodLink own idx x ∈ BIG ∧ Cond.sameMethod x.cls y.cls x.name x.desc ∈ BIG ∧ Cond.superclass own x.cls ∈ BIG ∧ (x.cls = y.cls ∨ Cond.superclass x.cls y.cls ∈ BIG) ∧ Cond.instanceMethod y ∈ BIG ∧ Cond.initialized y.cls ∈ BIG ∧ Cond.code y cc maxL rt ∈ BIG ∧ y = ⟨y.cls, x.name, x.desc⟩ ∧ x.name ≠ "<init>" ∧ (parseMethodDescriptor y.desc).map (fun d => d.parameters.length) = some n ∧ maxL ≤ 21
end CALLS2
end
section
section MORE
variable {z : Zx} {fx : Fx} {al : Bool} {own nm : String} {cc : ByteArray} {rt : Option FieldType} {nL r mc ms : Nat} {rv : Option Value} {N : Mem} {pc : Nat} {lv : List (Option Value)} {st : List Value} {M : Mem} {nc ns : Nat}
theorem v_callSU (hz : Zok z fx al own nm cc rt nL (r + 1) mc ms rv N) {idx ci n maxL b mc1 ms1 : Nat} {C : String} {T0 : u_T} {k : Nat} {x y : MethodName} {c1 : ByteArray} {rt1 : Option FieldType} {As : List Value} {rv1 : Option Value} {M1 : Mem} {st0 : List Value}
    (hv : UPL own idx x y c1 maxL rt1 n) (hM : Ct fx y c1 maxL rt1 r mc1 ms1 al (.ref b :: As) M rv1 M1) (hci : vwCl[ci]? = some (C, T0, k)) (hci13 : ci < 13) (hb : b < mN M) (hkb : mK M b = ci) (hn : As.length = n) (hll : lv.length = nL) (hst0 : st0 = As.reverse ++ .ref b :: st) (hroom : (st.map fun v => v.category).sum ≤ 8) (hc : nc + mc1 ≤ mc ∧ ns + ms1 ≤ ms) (hd : decode cc pc = .ok (.invokespecial idx, 3))
    (kk : V z (pc + 3) lv (rv1.toList ++ st) M1 (nc + mc1) (ns + ms1)) : V z pc lv st0 M nc ns := by
  obtain ⟨w1, w2, w3, w4, w5, w6, w7, hyx, hno, hdn, hml⟩ := hv
  refine v_run (ar := (Value.ref (z.ad b) :: As.map (tv z.ad z.ex)).toArray) (fun H locs ls hw hl => ?_) kk
  have he := wl_get (cy := z.cy) (ad := z.ad) hb
  rw [ent_obj hkb hci13] at he
  rw [← hz.efx, ← hz.eal] at hM
  have hM' := hM z.ad hz.inj
  rw [← hz.el] at hM'
  have hg : ∀ w ∈ Cond.code y c1 maxL rt1 :: BIG, w ∈ BIG := fun w h => (List.mem_cons.mp h).elim (fun e => e ▸ w7) id
  have hrk := rk_le (r := r) (mc := mc) (ms := ms) (mc1 := mc1) (ms1 := ms1) hml
  have hini := hz.ts _ w6
  have hK : Back z.l z.R z.p z.e z.b z.s z.a y 3 8 (PreOf z.R mc1 ms1 (va_Pc ((Value.ref b :: As).map (tv z.ad z.ex)) (Px z.fx z.ad z.al M))) (PostOf (Qx z.fx z.ad z.al rv1 M1) mc1 ms1 (Ad z.ad)) := back_of (bytes := c1) (maxL := maxL) (ret := rt1) hM' Px_blind rfl rfl (by rw [hz.room]; exact hrk.1) (by rw [hz.room]; exact hrk.2) (pay_in hz.ts (big_ws hg)) List.mem_cons_self (fun a' U hW => word_at hW (Or.inl (by first | rfl | simp [Cond.onTables, Cond.keeps, Cond.steady])) hini)
  obtain ⟨cellB, hcB, hoB, hclB⟩ := va_recv hz.K hw.1 (ci := ci) (q0 := b) hci he
  obtain ⟨-, hfc, kB, hkB, -⟩ := hz.K.1 ci _ hci
  have hcl2 : z.D.1 ci = cellB.cls := Option.some.inj (hfc.symm.trans hclB)
  rw [hcl2] at hkB
  obtain ⟨mk, methM, hnamed, hmethM, hstM, habM⟩ := Cond.instanceMethod_spec (hz.ts _ w5)
  obtain ⟨methM', cM, hmethM', -, -, -, -, -, -, hsigM⟩ := Cond.code_spec hnamed (hz.ts _ w7)
  cases hmethM.symm.trans hmethM'
  obtain ⟨ps, dk, kp, hps, hdk, hkp, hsuper, -, -, hnid⟩ := Cond.superclass_spec hz.hown (hz.ts _ w3)
  have hn2 : z.s.methodNamed? ⟨y.cls, x.name, x.desc⟩ = some mk := by rw [← hyx]; exact hnamed
  have hfy := findClass_of_methodNamed hnamed
  have hsub : z.s.vm.isSubclass ps mk.cls = true := by
    rcases w4 with e | w4
    · rw [e] at hps
      have hpm : ps = mk.cls := Option.some.inj (hps.symm.trans hfy)
      rw [hpm]
      simp [Vm.isSubclass, Vm.isSubclassAux]
    · obtain ⟨ps2, dk2, kp2, hps2, hdk2, hkp2, hsuper2, -⟩ := Cond.superclass_spec hps (hz.ts _ w4)
      have hpm : ps2 = mk.cls := Option.some.inj (hps2.symm.trans hfy)
      subst hpm
      have hsz : 0 < z.s.vm.classes.size := Nat.lt_of_le_of_lt (Nat.zero_le _) (Array.getElem?_eq_some_iff.mp hdk2).1
      obtain ⟨q, hq⟩ : ∃ q, z.s.vm.classes.size = q + 1 := ⟨z.s.vm.classes.size - 1, by omega⟩
      simp [Vm.isSubclass, Vm.isSubclassAux, hq, hdk2, hsuper2]
  intro T hT X
  have hsz0 : (F0 z.m pc ls (st0.map (tv z.ad z.ex))).locals.size = z.c.maxLocals := (hl.1.trans hll).trans hz.nl.symm
  obtain ⟨vm₁, X₁, hstep₁⟩ := X.invokespecialUp hz.exec hz.hown (hz.ts _ w1) (hz.ts _ w2) hn2 hmethM hstM habM hno hdk hnid hps hsuper hsub (a := z.ad b) (cell := cellB) (by rw [hT]; exact hcB)
    (fun z h => by rw [h] at hoB; cases hoB) hkB (g := F0 z.m pc ls (st0.map (tv z.ad z.ex))) rfl (argsL := As.map (tv z.ad z.ex)) (rest := st.map (tv z.ad z.ex)) (by rw [List.length_map, hn]; have h2 := hdn; rw [hsigM] at h2; exact (Option.some.inj h2).symm) (by rw [hst0]; simp [tv]) (by rw [hz.code]; exact hd)
  obtain ⟨v, ⟨U', l2, c2, s2⟩, X', ⟨g', mk', t, L, e1, e2, hq, h1, hL, h2, h3⟩, hsteps⟩ := hK z.m z.mt z.c ⟨T.setVm vm₁, locs, nc, ns⟩ { F0 z.m pc ls (st0.map (tv z.ad z.ex)) with stack := st.map (tv z.ad z.ex) } (.invokespecial idx) mk (Value.ref (z.ad b) :: As.map (tv z.ad z.ex)).toArray X₁ rfl hsz0 (by rw [hz.code]; exact hd) (lv_room (by simpa [Function.comp_def, tv_cat] using hroom)) (X₁.named hnamed)
    ⟨by rw [hz.room]; exact hc.1, by rw [hz.room]; exact hc.2, by rw [List.map_cons]; rfl, Px_at hz hw hT X₁.warmed⟩
  dsimp only [Pt.U, Pt.locs, Pt.cells, Pt.slots] at X' e1 e2 h1 h2 h3 hsteps
  subst h1; subst h2; subst h3
  exact ⟨v, (T.setVm vm₁).calling g' mk' (Value.ref (z.ad b) :: As.map (tv z.ad z.ex)).toArray, t, U', L, hT, X', hL, e1, e2, hq, fun target h => hstep₁ _ (by rw [doInvoke_state]; exact hsteps.trans h)⟩
theorem v_objInit (hz : Zok z fx al own nm cc rt nL (r + 1) mc ms rv N) {idx a : Nat} (w1 : Cond.methodLink own idx objectInit ∈ BIG) (w2 : Cond.instanceMethod objectInit ∈ BIG) (w3 : Cond.code objectInit ⟨#[0xb1]⟩ 1 none ∈ BIG) (hll : lv.length = nL) (hst : st = []) (hd : decode cc pc = .ok (.invokespecial idx, 3)) (kk : V z (pc + 3) lv st M nc ns) : V z pc lv (.ref a :: st) M nc ns := by
  intro H locs ls hw hl
  subst hst
  exact W.objInit hz.exec hz.code hz.hown (hz.ts _ w1) (hz.ts _ w2) (hz.ts _ w3) rfl ((hl.1.trans hll).trans hz.nl.symm) rfl hd (by rw [hz.room]; exact Nat.le_add_left _ _) (by rw [hz.room]; show _ ≤ 40 * (r + 1); simp [JFrame.monitorRoom]; omega) (kk H locs ls hw hl)
def ML (own : String) (idx : Nat) (y : MethodName) (c : ByteArray) : Prop := Cond.methodLink own idx y ∈ BIG ∧ Cond.static y ∈ BIG ∧ Cond.initialized "java/lang/Math" ∈ BIG ∧ Cond.code y c 2 (some .int) ∈ BIG
theorem v_mmax (hz : Zok z fx al own nm cc rt nL (r + 1) mc ms rv N) {idx : Nat} {x y : Int32} (hv : ML own idx Lib.Math.max.name Lib.Math.max.code) (hll : lv.length = nL) (hroom : (st.map fun v => v.category).sum ≤ 8) (hnc : nc ≤ mc) (hns : ns ≤ ms) (hd : decode cc pc = .ok (.invokestatic idx, 3)) (kk : V z (pc + 3) lv (.int (if x < y then y else x) :: st) M nc ns) : V z pc lv (.int y :: .int x :: st) M nc ns := by
  intro H locs ls hw hl
  obtain ⟨w1, w2, w3, w4⟩ := hv
  exact va_mmax hz.exec hz.code (hz.nl.trans (hl.1.trans hll).symm) hz.hown (hz.ts _ w1) (hz.ts _ w2) (hz.ts _ w3) (hz.ts _ w4) (by rw [hz.room]; exact Nat.le_add_left _ _) (by rw [hz.room]; have h : ((st.map (tv z.ad z.ex)).map fun v => v.category).sum ≤ 8 := (by simpa [Function.comp_def, tv_cat] using hroom); show _ ≤ 40 * (r + 1); omega) (by rw [hz.room]; exact hnc) (by rw [hz.room]; exact hns) hd (kk H locs ls hw hl)
theorem v_mmin (hz : Zok z fx al own nm cc rt nL (r + 1) mc ms rv N) {idx : Nat} {x y : Int32} (hv : ML own idx Lib.Math.min.name Lib.Math.min.code) (hll : lv.length = nL) (hroom : (st.map fun v => v.category).sum ≤ 8) (hnc : nc ≤ mc) (hns : ns ≤ ms) (hd : decode cc pc = .ok (.invokestatic idx, 3)) (kk : V z (pc + 3) lv (.int (if y < x then y else x) :: st) M nc ns) : V z pc lv (.int y :: .int x :: st) M nc ns := by
  intro H locs ls hw hl
  obtain ⟨w1, w2, w3, w4⟩ := hv
  exact va_mmin hz.exec hz.code (hz.nl.trans (hl.1.trans hll).symm) hz.hown (hz.ts _ w1) (hz.ts _ w2) (hz.ts _ w3) (hz.ts _ w4) (by rw [hz.room]; exact Nat.le_add_left _ _) (by rw [hz.room]; have h : ((st.map (tv z.ad z.ex)).map fun v => v.category).sum ≤ 8 := (by simpa [Function.comp_def, tv_cat] using hroom); show _ ≤ 40 * (r + 1); omega) (by rw [hz.room]; exact hnc) (by rw [hz.room]; exact hns) hd (kk H locs ls hw hl)
/-- a stretch of a row copied -/
def CL (own : String) (idx : Nat) : Prop := Cond.methodLink own idx arraycopyName ∈ BIG ∧ Cond.native arraycopyName ∈ BIG ∧ Cond.static arraycopyName ∈ BIG ∧ Cond.initialized "java/lang/System" ∈ BIG
def cpok (sp dp n : Int32) (n0 n1 : Nat) : Bool := !(decide (sp < 0)) && !(decide (dp < 0)) && !(decide (n < 0)) && decide (sp.toNatClampNeg + n.toNatClampNeg ≤ n0) && decide (dp.toNatClampNeg + n.toNatClampNeg ≤ n1)
theorem cpok_of {sp dp n : Int32} {n0 n1 : Nat} (h : cpok sp dp n n0 n1 = true) : ¬ sp < 0 ∧ ¬ dp < 0 ∧ ¬ n < 0 ∧ sp.toNatClampNeg + n.toNatClampNeg ≤ n0 ∧ dp.toNatClampNeg + n.toNatClampNeg ≤ n1 := by
  simpa [cpok, and_assoc] using h
theorem cp_room (h : (st.map fun v => v.category).sum ≤ 8) (hz : Zok z fx al own nm cc rt nL (r + 1) mc ms rv N) : ((st.map (tv z.ad z.ex)).map fun v => v.category).sum + (nativeFrameWords "java/lang/System" "arraycopy" 5 + 11) ≤ z.R.locals := by
  have h' : ((st.map (tv z.ad z.ex)).map fun v => v.category).sum ≤ 8 := by simpa [Function.comp_def, tv_cat] using h
  have h2 : nativeFrameWords "java/lang/System" "arraycopy" 5 + 11 ≤ 32 := by decide +kernel
  rw [hz.room]
  show _ ≤ 40 * (r + 1)
  omega
theorem v_copyI (hz : Zok z fx false own nm cc rt nL (r + 1) mc ms rv N) {idx a b c : Nat} {sp dp n : Int32} (hv : CL own idx) (hc : c = 14 ∨ (c = 16 ∧ ∀ i, i < n.toNatClampNeg → (mI M a (sp.toNatClampNeg + i) = 0 ∨ mI M a (sp.toNatClampNeg + i) = 1))) (hll : lv.length = nL) (ha : a < mN M) (hka : mK M a = c) (hb : b < mN M) (hkb : mK M b = c) (hok : cpok sp dp n (mG M a) (mG M b) = true) (hroom : (st.map fun v => v.category).sum ≤ 8) (hd : decode cc pc = .ok (.invokestatic idx, 3))
    (kk : V z (pc + 3) lv st (cpI M a b sp.toNatClampNeg dp.toNatClampNeg n.toNatClampNeg) nc ns) : V z pc lv (.int n :: .int dp :: .ref b :: .int sp :: .ref a :: st) M nc ns := by
  intro H locs ls hw hl
  obtain ⟨w1, w2, w3, w4⟩ := hv
  obtain ⟨o1, o2, o3, o4, o5⟩ := cpok_of hok
  have hc3 : c = 13 ∨ c = 14 ∨ c = 16 := hc.elim (fun h => Or.inr (Or.inl h)) (fun h => Or.inr (Or.inr h.1))
  have hea := wl_get (cy := z.cy) (ad := z.ad) ha
  have heb := wl_get (cy := z.cy) (ad := z.ad) hb
  rw [ent_ints hka hc3] at hea
  rw [ent_ints hkb hc3] at heb
  obtain ⟨t0, ty, ht, hprim, hfit⟩ : ∃ (t0 : Nat) (ty : FieldType), (tysF z.cy)[t0]? = some (z.cy c, ty) ∧ refKind ty = false ∧ ∀ i, i < n.toNatClampNeg → fits ty (.int (mI M a (sp.toNatClampNeg + i))) = true := by
    rcases hc with rfl | ⟨rfl, h⟩
    · exact ⟨1, .int, rfl, rfl, fun _ _ => rfl⟩
    · exact ⟨3, .boolean, rfl, rfl, fun i hi => by rcases h i hi with e | e <;> simp [fits, e]⟩
  refine va_copyi hz.exec hz.code (hz.nl.trans (hl.1.trans hll).symm) hz.hown (hz.ts _ w1) (hz.ts _ w2) (hz.ts _ w3) (hz.ts _ w4) hz.K hw.1 (hz.D M) hw.2.1 a b t0 t0 hea heb ht ht hprim o1 o2 o3 o4 o5 hfit (by rw [hz.room]; exact Nat.le_add_left _ _) (cp_room hroom hz) hd (fun H1 locs1 hP hD hS => ?_)
  rw [w_arr (M := M) (M' := cpI M a b sp.toNatClampNeg dp.toNatClampNeg n.toNatClampNeg) rfl (fun _ => rfl) (fun _ => rfl) (fun _ _ _ => rfl) (fun q hq j => if_neg (fun h => hq h.1)) (fun _ _ _ => rfl) (by
    rw [ent_ints (M := cpI M a b sp.toNatClampNeg dp.toNatClampNeg n.toNatClampNeg) hkb hc3]
    have : mI (cpI M a b sp.toNatClampNeg dp.toNatClampNeg n.toNatClampNeg) b = va_cpy (mI M a) (mI M b) sp.toNatClampNeg dp.toNatClampNeg n.toNatClampNeg := by
      funext j
      simp [mI_cpI, va_cpy]
    rw [this]
    rfl)] at hP
  exact kk H1 locs1 ls ⟨hP, hS, fun hal => by rw [hz.eal] at hal; cases hal⟩ hl
theorem v_copyL (hz : Zok z fx false own nm cc rt nL (r + 1) mc ms rv N) {idx a b : Nat} {sp dp n : Int32} (hv : CL own idx) (hll : lv.length = nL) (ha : a < mN M) (hka : mK M a = 15) (hb : b < mN M) (hkb : mK M b = 15) (hok : cpok sp dp n (mG M a) (mG M b) = true) (hroom : (st.map fun v => v.category).sum ≤ 8) (hd : decode cc pc = .ok (.invokestatic idx, 3))
    (kk : V z (pc + 3) lv st (cpL M a b sp.toNatClampNeg dp.toNatClampNeg n.toNatClampNeg) nc ns) : V z pc lv (.int n :: .int dp :: .ref b :: .int sp :: .ref a :: st) M nc ns := by
  intro H locs ls hw hl
  obtain ⟨w1, w2, w3, w4⟩ := hv
  obtain ⟨o1, o2, o3, o4, o5⟩ := cpok_of hok
  have hea := wl_get (cy := z.cy) (ad := z.ad) ha
  have heb := wl_get (cy := z.cy) (ad := z.ad) hb
  rw [ent_longs hka] at hea
  rw [ent_longs hkb] at heb
  refine va_copyl hz.exec hz.code (hz.nl.trans (hl.1.trans hll).symm) hz.hown (hz.ts _ w1) (hz.ts _ w2) (hz.ts _ w3) (hz.ts _ w4) hz.K hw.1 (hz.D M) hw.2.1 a b 2 2 hea heb rfl rfl rfl o1 o2 o3 o4 o5 (fun _ _ => rfl) (by rw [hz.room]; exact Nat.le_add_left _ _) (cp_room hroom hz) hd (fun H1 locs1 hP hD hS => ?_)
  rw [w_arr (M := M) (M' := cpL M a b sp.toNatClampNeg dp.toNatClampNeg n.toNatClampNeg) rfl (fun _ => rfl) (fun _ => rfl) (fun _ _ _ => rfl) (fun _ _ _ => rfl) (fun q hq j => if_neg (fun h => hq h.1)) (by
    rw [ent_longs (M := cpL M a b sp.toNatClampNeg dp.toNatClampNeg n.toNatClampNeg) hkb]
    have : mL (cpL M a b sp.toNatClampNeg dp.toNatClampNeg n.toNatClampNeg) b = va_cpy (mL M a) (mL M b) sp.toNatClampNeg dp.toNatClampNeg n.toNatClampNeg := by
      funext j
      simp [mL_cpL, va_cpy]
    rw [this]
    rfl)] at hP
  exact kk H1 locs1 ls ⟨hP, hS, fun hal => by rw [hz.eal] at hal; cases hal⟩ hl
end MORE
end
section
section NEWS
variable {z : Zx} {fx : Fx} {al : Bool} {own nm : String} {cc : ByteArray} {rt : Option FieldType} {nL r mc ms : Nat} {rv : Option Value} {N : Mem} {pc : Nat} {lv : List (Option Value)} {st : List Value} {M : Mem} {nc ns : Nat}
theorem ent_alc {cy : Nat → ClassId} {ad : Nat → Nat} {c n j : Nat} (h : j < mN M) : ent cy ad (alc M c n) j = ent cy ad M j := by
  have hne : j ≠ mN M := by omega
  exact ent_same (by rw [mK_alc, if_neg hne]) (by rw [mG_alc, if_neg hne]) (fun i => by rw [mR_alc, if_neg hne]) (fun i => by rw [mI_alc, if_neg hne]) (fun i => by rw [mL_alc, if_neg hne])
/-- a new cell stands in the world -/
theorem w_new (hal : z.al = true) {H H1 : Heap} {locs : List Loc} {c n : Nat} (hw : Wd z M H locs) (z1 : H1.size = H.size + 1) (o1 : ∀ q, q < H.size → H1[q]? = H[q]?) (hat : va_at z.D vwCl (z.ad (mN M), ent z.cy z.ad (alc M c n) (mN M)) H1) : Wd z (alc M c n) H1 locs := by
  have hS := hw.2.1
  refine ⟨?_, ⟨Nat.le_trans hS.1 (by omega), fun x h1 h2 => (o1 x (Nat.lt_of_lt_of_le h1 hS.1)).trans (hS.2.1 x h1 h2), hS.2.2⟩, fun _ j => ?_⟩
  · rw [← wl_push (M := M) (M' := alc M c n) rfl (fun j hj => ent_alc hj) rfl]
    refine (hw.1.kept fun k q hk => o1 q.1 ((hw.1 k q hk).lt)).app (fun k q hk => ?_)
    have hz : k < 1 := (List.getElem?_eq_some_iff.mp hk).1
    rw [show k = 0 by omega] at hk
    cases hk
    exact hat
  · rw [mN_alc, z1, Nat.add_assoc, hw.2.2 hal (1 + j)]
    omega
def NW (own : String) (idx ci n : Nat) : Prop := ∃ (C : String) (T : u_T) (ty : Nat → FieldType), vwCl[ci]? = some (C, T, n) ∧ ci < 13 ∧ Cond.classLink own idx C ∈ BIG ∧ Cond.instantiable C n ∈ BIG ∧ Cond.initialized C ∈ BIG ∧ (∀ w ∈ u_ws C T n, w ∈ BIG) ∧ (∀ j, j < n → parseFieldDescriptor (T j).2.2.1 = some (ty j)) ∧ (fk ci).length = n ∧ ∀ j, j < n → defaultValue (ty j) = if (fk ci).getD j false = true then .null else .int 0
theorem v_new (hz : Zok z fx true own nm cc rt nL r mc ms rv N) {idx ci n : Nat} (hv : NW own idx ci n) (hnc : nc + 1 ≤ mc) (hns : ns + n ≤ ms) (hd : decode cc pc = .ok (.new idx, 3)) (kk : V z (pc + 3) lv (.ref (mN M) :: st) (alc M ci 0) (nc + 1) (ns + n)) : V z pc lv st M nc ns := by
  intro H locs ls hw hl
  obtain ⟨C, T, ty, hc, hci, w1, w2, w3, hin, hty, hfl, hdf⟩ := hv
  have hKn := hz.K.1 ci _ hc
  have h0 := hw.2.2 hz.eal 0
  refine W.newcK hz.exec hz.code hz.hown (hz.ts _ w1) (hz.ts _ w2) (hz.ts _ w3) rfl hd (by rw [hz.room]; exact hnc) (by rw [hz.room]; exact hns) hKn.2.1 (h := z.ad (mN M)) (by rw [Nat.add_zero] at h0; exact h0.symm) fun H1 kC hkC e1 z1 o1 => ?_
  have hsz : z.ad (mN M) = H.size := by simpa using h0
  refine kk H1 locs ls (w_new hz.eal hw (by rw [z1, hsz]) (fun q hq => o1 q (by rw [hsz]; exact hq)) ?_) hl
  rw [ent_obj (c := ci) (by rw [mK_alc, if_pos rfl]) hci]
  refine ⟨_, hc, (u_born ty hz.ts hin hKn hkC e1 hty).to fun j hj => ?_⟩
  have hb : (fk ci)[j]? = some ((fk ci).getD j false) := by
    have : j < (fk ci).length := by omega
    simp [this]
  have hfd : vp_V (flds z.ad (alc M ci 0) (mN M) (fk ci)) j = fv z.ad (alc M ci 0) (mN M) j ((fk ci).getD j false) := by
    simp only [vp_V, List.getD_eq_getElem?_getD]
    rw [flds_at hb, List.getD_eq_getElem?_getD]
    rfl
  show defaultValue (ty j) = vp_V (flds z.ad (alc M ci 0) (mN M) (fk ci)) j
  rw [hdf j hj, hfd]
  by_cases hq : (fk ci).getD j false = true
  · rw [if_pos hq, hq]
    simp [fv, mR_alc, va_rf]
  · have hq' : (fk ci).getD j false = false := by simpa using hq
    rw [hq']
    simp [fv, mI_alc]
theorem v_newI (hz : Zok z fx true own nm cc rt nL r mc ms rv N) {c t0 : Nat} {at0 : ArrayType} {n : Int32} {N' : Nat} (hw0 : Cond.arrayClass (newarray.typeOf at0) ∈ BIG) (hc : (c = 13 ∧ at0 = .byte) ∨ (c = 14 ∧ at0 = .int) ∨ (c = 16 ∧ at0 = .boolean)) (hn : ¬ n < 0) (hN : n.toNatClampNeg = N') (hbig : N' ≤ 1000) (hnc : nc + 1 ≤ mc) (hns : ns + N' ≤ ms) (hd : decode cc pc = .ok (.newarray at0, 2)) (kk : V z (pc + 2) lv (.ref (mN M) :: st) (alc M c N') (nc + 1) (ns + N')) : V z pc lv (.int n :: st) M nc ns := by
  intro H locs ls hw hl
  have h0 := hw.2.2 hz.eal 0
  have hsz : z.ad (mN M) = H.size := by simpa using h0
  have hc3 : c = 13 ∨ c = 14 ∨ c = 16 := by rcases hc with h | h | h <;> simp [h.1]
  refine va_newaK hz.exec hz.code (hz.ts _ hw0) rfl hd rfl hn hN (by rcases hc with ⟨-, rfl⟩ | ⟨-, rfl⟩ | ⟨-, rfl⟩ <;> simp [newarray.typeOf, componentBytes] <;> omega) (by rw [hz.room]; exact hnc) (by rw [hz.room]; exact hns) (h := z.ad (mN M)) hsz.symm fun H1 cA e1 z1 o1 hA hf => ?_
  have hcA : cA = z.cy c ∧ defaultValue (newarray.typeOf at0) = .int 0 := by
    rcases hc with ⟨rfl, rfl⟩ | ⟨rfl, rfl⟩ | ⟨rfl, rfl⟩
    · exact ⟨Option.some.inj (hf.symm.trans (hz.K.2 0 _ rfl).2), rfl⟩
    · exact ⟨Option.some.inj (hf.symm.trans (hz.K.2 1 _ rfl).2), rfl⟩
    · exact ⟨Option.some.inj (hf.symm.trans (hz.K.2 3 _ rfl).2), rfl⟩
  refine kk H1 locs ls (w_new hz.eal hw (by rw [z1, hsz]) (fun q hq => o1 q (by rw [hsz]; exact hq)) ?_) hl
  rw [ent_ints (c := c) (by rw [mK_alc, if_pos rfl]) hc3, mG_alc, if_pos rfl]
  show H1[z.ad (mN M)]? = some (vp_cell _ _)
  rw [e1, hcA.1, hcA.2, vp_cell_i]
  have : mI (alc M c N') (mN M) = fun _ => 0 := by
    funext j
    simp [mI_alc]
  rw [this]
theorem v_newL (hz : Zok z fx true own nm cc rt nL r mc ms rv N) {n : Int32} {N' : Nat} (hw0 : Cond.arrayClass (newarray.typeOf .long) ∈ BIG) (hn : ¬ n < 0) (hN : n.toNatClampNeg = N') (hbig : N' ≤ 1000) (hnc : nc + 1 ≤ mc) (hns : ns + N' ≤ ms) (hd : decode cc pc = .ok (.newarray .long, 2)) (kk : V z (pc + 2) lv (.ref (mN M) :: st) (alc M 15 N') (nc + 1) (ns + N')) : V z pc lv (.int n :: st) M nc ns := by
  intro H locs ls hw hl
  have h0 := hw.2.2 hz.eal 0
  have hsz : z.ad (mN M) = H.size := by simpa using h0
  refine va_newaK hz.exec hz.code (hz.ts _ hw0) rfl hd rfl hn hN (by simp [newarray.typeOf, componentBytes]; omega) (by rw [hz.room]; exact hnc) (by rw [hz.room]; exact hns) (h := z.ad (mN M)) hsz.symm fun H1 cA e1 z1 o1 hA hf => ?_
  have hcA : cA = z.cy 15 := Option.some.inj (hf.symm.trans (hz.K.2 2 _ rfl).2)
  refine kk H1 locs ls (w_new hz.eal hw (by rw [z1, hsz]) (fun q hq => o1 q (by rw [hsz]; exact hq)) ?_) hl
  rw [ent_longs (by rw [mK_alc, if_pos rfl]), mG_alc, if_pos rfl]
  show H1[z.ad (mN M)]? = some (vp_cell _ _)
  rw [e1, hcA, vp_cell_l]
  have : mL (alc M 15 N') (mN M) = fun _ => 0 := by
    funext j
    simp [mL_alc]
  rw [this]
  rfl
theorem v_anew (hz : Zok z fx true own nm cc rt nL r mc ms rv N) {idx : Nat} {n : Int32} {N' : Nat} (hw0 : Cond.classLink own idx "CarpetsLaw$Walker" ∈ BIG) (hn : ¬ n < 0) (hN : n.toNatClampNeg = N') (hbig : N' ≤ 1000) (hnc : nc + 1 ≤ mc) (hns : ns + N' ≤ ms) (hd : decode cc pc = .ok (.anewarray idx, 3)) (kk : V z (pc + 3) lv (.ref (mN M) :: st) (alc M 17 N') (nc + 1) (ns + N')) : V z pc lv (.int n :: st) M nc ns := by
  intro H locs ls hw hl
  have h0 := hw.2.2 hz.eal 0
  have hsz : z.ad (mN M) = H.size := by simpa using h0
  subst hN
  refine W.anew hz.exec hz.code hz.hown (hz.ts _ hw0) (va_AO.use hz.ext.2.2.2.1) rfl hd rfl hn (by omega) (by rw [hz.room]; exact hnc) (by rw [hz.room]; exact hns) fun cA kA comp f1 f2 f3 f4 => ?_
  generalize hH1 : H.push ({ cls := cA, slots := Array.replicate n.toNatClampNeg .null, vm := .none } : Cell) = H1
  have z1 : H1.size = H.size + 1 := by rw [← hH1, Array.size_push]
  have e1 : H1[H.size]? = some (arrV cA n.toNatClampNeg (fun _ => .null)) := by rw [← hH1, Array.getElem?_push_size, ← arrV_new]
  have o1 : ∀ q : Nat, q < H.size → H1[q]? = H[q]? := fun q hq => by rw [← hH1, Array.getElem?_push, if_neg (Nat.ne_of_lt hq)]
  obtain ⟨kA', comp', k1, k2, k3, k4⟩ := (hz.K.2 4 _ rfl).2
  have hcA : cA = z.cy 17 := Option.some.inj (f1.symm.trans k4)
  have key : W z.p z.l z.e z.R z.s z.m z.a z.b z.mt z.c H1 locs (nc + 1) (ns + n.toNatClampNeg) z.Q (F0 z.m (pc + 3) ls ((Value.ref (mN M) :: st).map (tv z.ad z.ex))) := by
    refine kk H1 locs ls (w_new hz.eal hw z1 o1 ?_) hl
    rw [ent_refs (by rw [mK_alc, if_pos rfl]), mG_alc, if_pos rfl]
    show H1[z.ad (mN M)]? = some (vp_cell _ _)
    rw [hsz, e1, hcA, vp_cell_q]
    congr 2
    funext j
    simp [mR_alc, va_rf]
  have e : (Value.ref (mN M) :: st).map (tv z.ad z.ex) = Value.ref H.size :: st.map (tv z.ad z.ex) := by
    rw [List.map_cons, ← hsz]
    rfl
  rw [e] at key
  exact key
theorem v_aastore (hz : Zok z fx al own nm cc rt nL r mc ms rv N) {a v ci : Nat} {C : String} {T : u_T} {k : Nat} {i : Int32} (hd : decode cc pc = .ok (.aastore, 1)) (ha : a < mN M) (hk : mK M a = 17) (hin : inb i (mG M a) = true) (hv : v < mN M) (hkv : mK M v = ci) (hci13 : ci < 13) (hci : vwCl[ci]? = some (C, T, k)) (hC : C = "CarpetsLaw$Walker" ∨ C ∈ xCast) (kk : V z (pc + 1) lv st (stR M a i.toNatClampNeg (some v)) nc ns) : V z pc lv (.ref v :: .int i :: .ref a :: st) M nc ns := by
  intro H locs ls hw hl
  have he := wl_get (cy := z.cy) (ad := z.ad) ha
  have hev := wl_get (cy := z.cy) (ad := z.ad) hv
  rw [ent_refs hk] at he
  rw [ent_obj hkv hci13] at hev
  have hD := hz.D M
  have hin' := inb_in hin
  have hlt : i.toNatClampNeg < mG M a := Nat.not_le.mp fun q => hin' (Or.inr q)
  have h0 : ¬ i < 0 := fun q => hin' (Or.inl q)
  obtain ⟨r', hr', cellV, g1, g2, g3, -⟩ := hw.1 v _ hev
  have hcls := (hz.K.1 ci _ hci).2
  obtain ⟨kA, comp, k1, k2, k3, -⟩ := (hz.K.2 4 _ rfl).2
  obtain ⟨kE, hkE, -⟩ := Vm.findClass_spec k3
  obtain ⟨kC, hkC, hkk⟩ := hcls.2
  have hasg : z.s.vm.assignable (z.D.1 ci) comp = true := by
    rcases hC with rfl | hC
    · have : comp = z.D.1 ci := Option.some.inj (k3.symm.trans hcls.1)
      rw [this]
      exact va_assign hcls
    · obtain ⟨c0, t1, f1, f2, f3⟩ := Cond.castable_spec (va_Nw.use (A := z.a) rfl (hz.ext.2.1 C hC))
      have e1 : z.D.1 ci = c0 := Option.some.inj (hcls.1.symm.trans f1)
      have e2 : comp = t1 := Option.some.inj (k3.symm.trans f2)
      rw [e1, e2]
      exact f3
  refine W.aast hz.exec hz.code (hw.1 a _ he) (fun q h => by cases h) (fun h => by cases h) k1 k2 rfl hkE ⟨h0, by show _ < (arrV _ _ _).slots.size; rw [arrV_size]; exact hlt⟩ g1 (fun q h => by rw [g3] at h; cases h) (by rw [g2]; exact hkC) (by rw [g2]; exact hasg) rfl rfl hd fun H1 e z1 oq => ?_
  have hat : va_at z.D vwCl (z.ad a, .inl (z.cy 17, (mG M a, .inr (.inr (.inr (.inr (va_up (fun j => (mR M a j).map z.ad) i.toNatClampNeg (some (z.ad v))))))))) H1 := by
    show H1[z.ad a]? = some (vp_cell _ _)
    rw [e, vp_cell_q, vp_cell_q, arrV_store]
    congr 2
    funext q
    by_cases hq : q = i.toNatClampNeg
    · subst hq
      simp [updV, va_up, va_rf]
    · simp [updV, va_up, hq]
  have hP' := hw.1.set hD he hat oq
  rw [w_arr (M := M) (M' := stR M a i.toNatClampNeg (some v)) rfl (fun _ => rfl) (fun _ => rfl) (fun b hb j => up2_ne (Or.inl hb)) (fun _ _ _ => rfl) (fun _ _ _ => rfl) (by
    rw [ent_refs (M := stR M a i.toNatClampNeg (some v)) hk]
    have : (fun j => (mR (stR M a i.toNatClampNeg (some v)) a j).map z.ad) = va_up (fun j => (mR M a j).map z.ad) i.toNatClampNeg (some (z.ad v)) := by
      funext j
      by_cases hj : j = i.toNatClampNeg <;> simp [mR_stR, va_up, hj]
    rw [this]
    rfl)] at hP'
  exact kk H1 _ ls ⟨hP', hw.2.1.put z1 oq (hD.2 a _ he), fun hal j => by rw [mN_stR, z1]; exact hw.2.2 hal j⟩ hl
theorem v_instY (hz : Zok z fx al own nm cc rt nL r mc ms rv N) {idx a : Nat} (hw0 : Cond.classLink own idx "CarpetsLaw$Told" ∈ BIG) (hd : decode cc pc = .ok (.instanceof idx, 3)) (ha : a < mN M) (hk : mK M a = 8) (kk : V z (pc + 3) lv (.int 1 :: st) M nc ns) : V z pc lv (.ref a :: st) M nc ns := by
  intro H locs ls hw hl
  have he := wl_get (cy := z.cy) (ad := z.ad) ha
  rw [ent_obj hk (by decide)] at he
  have hr := va_recv hz.K hw.1 (ci := 8) (q0 := a) (q := (RX8, TX8, 0)) rfl he
  exact va_instS hz.exec hz.code hz.hown (hz.ts _ hw0) (hz.K.1 8 (RX8, TX8, 0) rfl).2 hr hd (kk H locs ls hw hl)
theorem v_instN (hz : Zok z fx al own nm cc rt nL r mc ms rv N) {idx a ci : Nat} {C : String} {T : u_T} {k : Nat} (hw0 : Cond.classLink own idx "CarpetsLaw$Told" ∈ BIG) (hd : decode cc pc = .ok (.instanceof idx, 3)) (ha : a < mN M) (hk : mK M a = ci) (hci13 : ci < 13) (hci : vwCl[ci]? = some (C, T, k)) (hC : C ∈ xNot) (kk : V z (pc + 3) lv (.int 0 :: st) M nc ns) : V z pc lv (.ref a :: st) M nc ns := by
  intro H locs ls hw hl
  have he := wl_get (cy := z.cy) (ad := z.ad) ha
  rw [ent_obj hk hci13] at he
  have hr := va_recv hz.K hw.1 (ci := ci) (q0 := a) hci he
  exact va_instNo hz.exec hz.code hz.hown (hz.ts _ hw0) (hz.ext.2.2.1 C hC) hr hd (kk H locs ls hw hl)
theorem v_getKA (hz : Zok z fx al own nm cc rt nL r mc ms rv N) {idx : Nat} (hw0 : Cond.fieldLink own idx "CarpetsLaw" "KIND_ABOVE" "[I" ∈ BIG) (hd : decode cc pc = .ok (.getstatic idx, 3)) (kk : V z (pc + 3) lv (.retAddr 20 :: st) M nc ns) : V z pc lv st M nc ns := by
  intro H locs ls hw hl
  exact va_gets hz.exec hz.code hz.ext.2.2.2.2.2.2.2.1 hw.2.1 hz.hown (hz.ts _ hw0) (fun _ h => h) hd (kk H locs ls hw hl)
theorem v_kaload (hz : Zok z fx al own nm cc rt nL r mc ms rv N) {i : Int32} (hd : decode cc pc = .ok (.iaload, 1)) (hin : inb i 7 = true) (kk : V z (pc + 1) lv (.int (xAbove.getD i.toNatClampNeg 0) :: st) M nc ns) : V z pc lv (.int i :: .retAddr 20 :: st) M nc ns := by
  intro H locs ls hw hl
  exact va_ti hz.exec hz.code hz.ext.2.2.2.2.2.2.2.2.1 hw.2.1 (inb_in hin) rfl hd (kk H locs ls hw hl)
end NEWS
end
section
/-! ===== what the methods' functions are made of ===== -/
def FU : Nat := 1000000
def ck {α : Type} (b : Bool) (k : Option α) : Option α := match b with
  | true => k
  | false => none
def bd {α β : Type} (o : Option (α × Mem)) (k : α → Mem → Option β) : Option β := match o with
  | some q => k q.1 q.2
  | none => none
def rb {β : Type} (o : Option Nat) (k : Nat → Option β) : Option β := match o with
  | some q => k q
  | none => none
def nm {α β : Type} (a : α) (k : α → Option β) : Option β := k a
theorem ck_inv {α : Type} {b : Bool} {k : Option α} {x : α} (h : ck b k = some x) : b = true ∧ k = some x := by
  cases b with
  | true => exact ⟨rfl, h⟩
  | false => cases h
theorem bd_inv {α β : Type} {o : Option (α × Mem)} {k : α → Mem → Option β} {y : β} (h : bd o k = some y) : ∃ x M, o = some (x, M) ∧ k x M = some y := by
  cases o with
  | none => cases h
  | some q => exact ⟨q.1, q.2, rfl, h⟩
theorem rb_inv {β : Type} {o : Option Nat} {k : Nat → Option β} {y : β} (h : rb o k = some y) : ∃ b, o = some b ∧ k b = some y := by
  cases o with
  | none => cases h
  | some q => exact ⟨q, rfl, h⟩
theorem nm_inv {α β : Type} {a : α} {k : α → Option β} {y : β} (h : nm a k = some y) : ∃ b, b = a ∧ k b = some y := ⟨a, rfl, h⟩
theorem ck_t {α : Type} {k : Option α} : ck true k = k := rfl
theorem bd_s {α β : Type} {x : α} {M : Mem} {k : α → Mem → Option β} : bd (some (x, M)) k = k x M := rfl
theorem rb_s {β : Type} {b : Nat} {k : Nat → Option β} : rb (some b) k = k b := rfl
theorem nm_s {α β : Type} {a : α} {k : α → Option β} : nm a k = k a := rfl
def isK (M : Mem) (a c : Nat) : Bool := decide (a < mN M) && decide (mK M a = c)
theorem isK_of {M : Mem} {a c : Nat} (h : isK M a c = true) : a < mN M ∧ mK M a = c := by
  simpa [isK] using h
/-- one of the kinds of people -/
def isW (M : Mem) (a : Nat) : Bool := decide (a < mN M) && decide (mK M a = 0 ∨ mK M a = 2 ∨ mK M a = 4 ∨ mK M a = 6 ∨ mK M a = 8 ∨ mK M a = 9 ∨ mK M a = 10)
theorem isW_of {M : Mem} {a : Nat} (h : isW M a = true) : a < mN M ∧ (mK M a = 0 ∨ mK M a = 2 ∨ mK M a = 4 ∨ mK M a = 6 ∨ mK M a = 8 ∨ mK M a = 9 ∨ mK M a = 10) := by
  simpa [isW] using h
def b01 (x : Int32) : Bool := decide (x = 0) || decide (x = 1)
theorem b01_of {x : Int32} (h : b01 x = true) : x = 0 ∨ x = 1 := by simpa [b01] using h
def allb (M : Mem) (a sp n : Nat) : Bool := (List.range n).all (fun i => b01 (mI M a (sp + i)))
theorem allb_of {M : Mem} {a sp n : Nat} (h : allb M a sp n = true) : ∀ i, i < n → (mI M a (sp + i) = 0 ∨ mI M a (sp + i) = 1) := fun i hi => b01_of (List.all_eq_true.mp h i (List.mem_range.mpr hi))
theorem lvle_0 : lvle [] [] := trivial
theorem lvle_n {a b : List (Option Value)} {w : Option Value} (h : lvle a b) : lvle (none :: a) (w :: b) := h
theorem lvle_s {a b : List (Option Value)} {v : Value} (h : lvle a b) : lvle (some v :: a) (some v :: b) := ⟨rfl, h⟩
def inst8 (M : Mem) (a : Nat) : Option (Int32 × Mem) := ck (isW M a) <| if mK M a = 8 then some (1, M) else some (0, M)
section BASE
variable {z : Zx} {fx : Fx} {al : Bool} {own nm : String} {cc : ByteArray} {rt : Option FieldType} {nL r mc ms : Nat} {rv : Option Value} {N : Mem} {pc : Nat} {lv : List (Option Value)} {st : List Value} {M : Mem} {nc ns : Nat}
theorem v_wide {nc2 ns2 : Nat} (h1 : nc ≤ nc2) (h2 : ns ≤ ns2) (kk : V z pc lv st M nc2 ns2) : V z pc lv st M nc ns := fun H locs ls hw hl => W.widen (k := nc2) (n := ns2) h1 h2 (kk H locs ls hw hl)
theorem v_tableAt (hz : Zok z fx al own nm cc rt nL r mc ms rv N) {dflt lo hi : Int} {offs : Array Int} {len : Nat} {x k : Int32} {tgt : Nat} (hx : x = k) (hd : decode cc pc = .ok (.tableswitch dflt lo hi offs, len)) (h1 : ¬ k.toInt < lo) (h2 : ¬ hi < k.toInt) (ho : offs[(k.toInt - lo).toNat]? = some ((tgt : Int) - (pc : Int))) (ht : True) (kk : V z tgt lv st M nc ns) : V z pc lv (.int x :: st) M nc ns := by
  subst hx
  exact v_tableIn hz hd h1 h2 ho (by omega) kk
theorem v_lookAt (hz : Zok z fx al own nm cc rt nL r mc ms rv N) {dflt : Int} {ps : Array (Int × Int)} {len : Nat} {x k : Int32} {tgt : Nat} (hx : x = k) (hd : decode cc pc = .ok (.lookupswitch dflt ps, len)) (hp : (ps.toList.zip (ps.toList.drop 1)).all (fun (a, next) => a.1 < next.1) = true) (ho : Op.lookupswitch.offset ps.toList dflt k.toInt = (tgt : Int) - (pc : Int)) (ht : True) (kk : V z tgt lv st M nc ns) : V z pc lv (.int x :: st) M nc ns := by
  subst hx
  exact v_lookup hz hd hp ho (by omega) kk
theorem v_inst8 (hz : Zok z fx al own nm cc rt nL r mc ms rv N) {idx a : Nat} {x : Int32} {M1 : Mem} (hw0 : Cond.classLink own idx "CarpetsLaw$Told" ∈ BIG) (hd : decode cc pc = .ok (.instanceof idx, 3)) (h : inst8 M a = some (x, M1)) (kk : V z (pc + 3) lv (.int x :: st) M1 nc ns) : V z pc lv (.ref a :: st) M nc ns := by
  unfold inst8 at h
  obtain ⟨g, h⟩ := ck_inv h
  obtain ⟨ha, hk⟩ := isW_of g
  by_cases h8 : mK M a = 8
  · replace h := (if_pos h8).symm.trans h
    cases h
    exact v_instY hz hw0 hd ha h8 kk
  · replace h := (if_neg h8).symm.trans h
    cases h
    rcases hk with e | e | e | e | e | e | e
    · exact v_instN hz hw0 hd ha e (by decide) rfl (by decide +kernel) kk
    · exact v_instN hz hw0 hd ha e (by decide) rfl (by decide +kernel) kk
    · exact v_instN hz hw0 hd ha e (by decide) rfl (by decide +kernel) kk
    · exact v_instN hz hw0 hd ha e (by decide) rfl (by decide +kernel) kk
    · exact absurd e h8
    · exact v_instN hz hw0 hd ha e (by decide) rfl (by decide +kernel) kk
    · exact v_instN hz hw0 hd ha e (by decide) rfl (by decide +kernel) kk
theorem v_callSUw (hz : Zok z fx al own nm cc rt nL (r + 1) mc ms rv N) {idx n maxL b mc1 ms1 : Nat} {x y : MethodName} {c1 : ByteArray} {rt1 : Option FieldType} {As : List Value} {rv1 : Option Value} {M1 : Mem} {st0 : List Value}
    (hv : UPL own idx x y c1 maxL rt1 n) (hM : Ct fx y c1 maxL rt1 r mc1 ms1 al (.ref b :: As) M rv1 M1) (hg : isW M b = true) (hn : As.length = n) (hll : lv.length = nL) (hst0 : st0 = As.reverse ++ .ref b :: st) (hroom : (st.map fun v => v.category).sum ≤ 8) (hc : nc + mc1 ≤ mc ∧ ns + ms1 ≤ ms) (hd : decode cc pc = .ok (.invokespecial idx, 3))
    (kk : V z (pc + 3) lv (rv1.toList ++ st) M1 (nc + mc1) (ns + ms1)) : V z pc lv st0 M nc ns := by
  obtain ⟨ha, hk⟩ := isW_of hg
  rcases hk with e | e | e | e | e | e | e
  · exact v_callSU hz hv hM (ci := 0) rfl (by decide) ha e hn hll hst0 hroom hc hd kk
  · exact v_callSU hz hv hM (ci := 2) rfl (by decide) ha e hn hll hst0 hroom hc hd kk
  · exact v_callSU hz hv hM (ci := 4) rfl (by decide) ha e hn hll hst0 hroom hc hd kk
  · exact v_callSU hz hv hM (ci := 6) rfl (by decide) ha e hn hll hst0 hroom hc hd kk
  · exact v_callSU hz hv hM (ci := 8) rfl (by decide) ha e hn hll hst0 hroom hc hd kk
  · exact v_callSU hz hv hM (ci := 9) rfl (by decide) ha e hn hll hst0 hroom hc hd kk
  · exact v_callSU hz hv hM (ci := 10) rfl (by decide) ha e hn hll hst0 hroom hc hd kk
end BASE
end
section
section STRS
variable {z : Zx} {fx : Fx} {al : Bool} {own nm : String} {cc : ByteArray} {rt : Option FieldType} {nL r mc ms : Nat} {rv : Option Value} {N : Mem} {pc : Nat} {lv : List (Option Value)} {st : List Value} {M : Mem} {nc ns : Nat}
def isS (j : Nat) : Bool := decide (j < 10)
def isB (j : Nat) : Bool := decide (10 ≤ j ∧ j < 20)
theorem v_xval (hz : Zok z fx al own nm cc rt nL r mc ms rv N) {idx j : Nat} (hw0 : Cond.fieldLink own idx "java/lang/String" "value" "[B" ∈ BIG) (hd : decode cc pc = .ok (.getfield idx, 3)) (hj : isS j = true) (kk : V z (pc + 3) lv (.retAddr (10 + j) :: st) M nc ns) : V z pc lv (.retAddr j :: st) M nc ns := by
  intro H locs ls hw hl
  have hj' : j < 10 := of_decide_eq_true hj
  exact vk_getf hz.exec hz.code (hz.ext.2.2.2.2.1.1 j hj').2.2.1 hw.2.1 hz.hown (hz.ts _ hw0) (fun _ h => h) hd (kk H locs ls hw hl)
theorem v_xcod (hz : Zok z fx al own nm cc rt nL r mc ms rv N) {idx j : Nat} (hw0 : Cond.fieldLink own idx "java/lang/String" "coder" "B" ∈ BIG) (hd : decode cc pc = .ok (.getfield idx, 3)) (hj : isS j = true) (kk : V z (pc + 3) lv (.int 0 :: st) M nc ns) : V z pc lv (.retAddr j :: st) M nc ns := by
  intro H locs ls hw hl
  have hj' : j < 10 := of_decide_eq_true hj
  exact vk_getf hz.exec hz.code (hz.ext.2.2.2.2.1.1 j hj').2.1 hw.2.1 hz.hown (hz.ts _ hw0) (fun _ h => h) hd (kk H locs ls hw hl)
theorem v_getCS (hz : Zok z fx al own nm cc rt nL r mc ms rv N) {idx : Nat} (hw0 : Cond.fieldLink own idx "java/lang/String" "COMPACT_STRINGS" "Z" ∈ BIG) (hd : decode cc pc = .ok (.getstatic idx, 3)) (kk : V z (pc + 3) lv (.int 1 :: st) M nc ns) : V z pc lv st M nc ns := by
  intro H locs ls hw hl
  exact va_gets hz.exec hz.code hz.ext.2.2.2.2.2.2.1 hw.2.1 hz.hown (hz.ts _ hw0) (fun _ h => h) hd (kk H locs ls hw hl)
theorem v_getSF (hz : Zok z fx al own nm cc rt nL r mc ms rv N) {idx : Nat} (hw0 : Cond.fieldLink own idx "jdk/internal/util/Preconditions" "SIOOBE_FORMATTER" "Ljava/util/function/BiFunction;" ∈ BIG) (hd : decode cc pc = .ok (.getstatic idx, 3)) (kk : ∀ v : Value, (v = .null ∨ v = .retAddr 21) → V z (pc + 3) lv (v :: st) M nc ns) : V z pc lv st M nc ns := by
  intro H locs ls hw hl
  rcases hz.ext.2.2.2.2.2.2.2.2.2 with h | h
  · exact va_gets hz.exec hz.code h hw.2.1 hz.hown (hz.ts _ hw0) (fun _ h => h) hd (kk .null (Or.inl rfl) H locs ls hw hl)
  · exact va_gets hz.exec hz.code h hw.2.1 hz.hown (hz.ts _ hw0) (fun _ h => h) hd (kk (.retAddr 21) (Or.inr rfl) H locs ls hw hl)
theorem v_xlen (hz : Zok z fx al own nm cc rt nL r mc ms rv N) {j : Nat} (hd : decode cc pc = .ok (.arraylength, 1)) (hj : isB j = true) (kk : V z (pc + 1) lv (.int (Int32.ofNat (xLen.getD (j - 10) 0)) :: st) M nc ns) : V z pc lv (.retAddr j :: st) M nc ns := by
  intro H locs ls hw hl
  have hj' : 10 ≤ j ∧ j < 20 := of_decide_eq_true hj
  have hT := (hz.ext.2.2.2.2.1.1 (j - 10) (by omega)).2.2.2
  have e : 10 + (j - 10) = j := by omega
  simp only [e] at hT
  exact va_tlen hz.exec hz.code hT hw.2.1 rfl hd (kk H locs ls hw hl)
theorem v_xbaload (hz : Zok z fx al own nm cc rt nL r mc ms rv N) {j : Nat} {i : Int32} (hd : decode cc pc = .ok (.baload, 1)) (hj : isB j = true) (hin : inb i (xLen.getD (j - 10) 0) = true) (kk : V z (pc + 1) lv (.int ((xByt.getD (j - 10) []).getD i.toNatClampNeg 0) :: st) M nc ns) : V z pc lv (.int i :: .retAddr j :: st) M nc ns := by
  intro H locs ls hw hl
  have hj' : 10 ≤ j ∧ j < 20 := of_decide_eq_true hj
  have hT := (hz.ext.2.2.2.2.1.1 (j - 10) (by omega)).2.2.2
  have e : 10 + (j - 10) = j := by omega
  simp only [e] at hT
  exact va_tb hz.exec hz.code hT hw.2.1 (inb_in hin) rfl hd (kk H locs ls hw hl)
theorem v_callVX (hz : Zok z fx al own nm cc rt nL (r + 1) mc ms rv N) {idx n maxL b mc1 ms1 : Nat} {y : MethodName} {c1 : ByteArray} {rt1 : Option FieldType} {As : List Value} {rv1 : Option Value} {M1 : Mem} {st0 : List Value}
    (hv : VL own idx "java/lang/String" y c1 maxL rt1 n) (hM : Ct fx y c1 maxL rt1 r mc1 ms1 al (.retAddr b :: As) M rv1 M1) (hj : isS b = true) (hn : As.length = n) (hll : lv.length = nL) (hst0 : st0 = As.reverse ++ .retAddr b :: st) (hroom : (st.map fun v => v.category).sum ≤ 8) (hc : nc + mc1 ≤ mc ∧ ns + ms1 ≤ ms) (hd : decode cc pc = .ok (.invokevirtual idx, 3))
    (kk : V z (pc + 3) lv (rv1.toList ++ st) M1 (nc + mc1) (ns + ms1)) : V z pc lv st0 M nc ns := by
  obtain ⟨w1, w2, w3, w4, w5, hdn, hml⟩ := hv
  refine v_run (ar := (Value.ref (z.ex b) :: As.map (tv z.ad z.ex)).toArray) (fun H locs ls hw hl => ?_) kk
  have hj' : b < 10 := of_decide_eq_true hj
  rw [← hz.efx, ← hz.eal] at hM
  have hM' := hM z.ad hz.inj
  rw [← hz.el] at hM'
  refine va_runV (As := As.map (tv z.ad z.ex)) (Ts := BIG) (n := n) ⟨hz.exec, hz.code, hz.nl, hz.hown, hz.ts⟩ hM' (cwV n hz.ts (big_ws (ws := wsV own idx "java/lang/String" y (Cond.code y c1 maxL rt1 :: BIG)) ?_) rfl rfl rfl hdn (by rw [hz.room]; exact rk_le hml)) ⟨Px_blind, vk_recv hz.ext.2.2.2.2.1 hj' hw.2.1, fun U hU hW => ⟨by rw [List.map_cons]; rfl, Px_at hz hw hU hW⟩⟩ rfl (by rw [List.length_map]; exact hn) (hl.1.trans hll) (by rw [hst0]; simp [tv]) (lv_room (by simpa [Function.comp_def, tv_cat] using hroom)) hd (by rw [hz.room]; exact hc)
  intro w hw
  simp only [wsV, List.mem_append, List.mem_cons, List.not_mem_nil, or_false] at hw
  rcases hw with (rfl | rfl | rfl | rfl) | rfl | h
  · exact w1
  · exact w2
  · exact w3
  · exact w4
  · exact w5
  · exact h
/-- a static method of any class -/
def SX (own : String) (idx : Nat) (y : MethodName) (cc : ByteArray) (maxL : Nat) (rt : Option FieldType) (n : Nat) : Prop :=
  Cond.methodLink own idx y ∈ BIG ∧ Cond.static y ∈ BIG ∧ Cond.initialized y.cls ∈ BIG ∧ Cond.code y cc maxL rt ∈ BIG ∧ (y.cls ≠ "java/lang/invoke/MethodHandle" ∧ y.cls ≠ "java/lang/invoke/VarHandle" ∧ (parseMethodDescriptor y.desc).map (fun d => d.parameters.length) = some n) ∧ maxL ≤ 21
theorem v_callSX (hz : Zok z fx al own nm cc rt nL (r + 1) mc ms rv N) {idx n maxL mc1 ms1 : Nat} {y : MethodName} {c1 : ByteArray} {rt1 : Option FieldType} {As : List Value} {rv1 : Option Value} {M1 : Mem} {st0 : List Value}
    (hv : SX own idx y c1 maxL rt1 n) (hM : Ct fx y c1 maxL rt1 r mc1 ms1 al As M rv1 M1) (hn : As.length = n) (hll : lv.length = nL) (hst0 : st0 = As.reverse ++ st) (hroom : (st.map fun v => v.category).sum ≤ 8) (hc : nc + mc1 ≤ mc ∧ ns + ms1 ≤ ms) (hd : decode cc pc = .ok (.invokestatic idx, 3))
    (kk : V z (pc + 3) lv (rv1.toList ++ st) M1 (nc + mc1) (ns + ms1)) : V z pc lv st0 M nc ns := by
  obtain ⟨w1, w2, w3, w5, hdn, hml⟩ := hv
  refine v_run (ar := (As.map (tv z.ad z.ex)).toArray) (fun H locs ls hw hl => ?_) kk
  rw [← hz.efx, ← hz.eal] at hM
  have hM' := hM z.ad hz.inj
  rw [← hz.el] at hM'
  refine va_runS (As := As.map (tv z.ad z.ex)) (Ts := BIG) (n := n) ⟨hz.exec, hz.code, hz.nl, hz.hown, hz.ts⟩ hM' (va_cwS n hz.ts (big_ws (ws := va_wsS own idx y (Cond.code y c1 maxL rt1 :: BIG)) ?_) rfl rfl rfl hdn (by rw [hz.room]; exact rk_le hml)) ⟨Px_blind, fun U hU hW => ⟨rfl, Px_at hz hw hU hW⟩⟩ rfl (by rw [List.length_map]; exact hn) (hl.1.trans hll) (by rw [hst0]; simp) (lv_room (by simpa [Function.comp_def, tv_cat] using hroom)) hd (by rw [hz.room]; exact hc)
  intro w hw
  simp only [va_wsS, List.mem_append, List.mem_cons, List.not_mem_nil, or_false] at hw
  rcases hw with (rfl | rfl | rfl) | rfl | h
  · exact w1
  · exact w2
  · exact w3
  · exact w5
  · exact h
def okc (x : Int32) : Bool := decide (narrow .char (.int x) = .int x)
theorem v_cret {x : Int32} (hz : Zok z fx al own nm cc (some .char) nL r mc ms (some (.int x)) M) (hx : okc x = true) (hd : decode cc pc = .ok (.ireturn, 1)) (h1 : nc ≤ mc) (h2 : ns ≤ ms) : V z pc lv [.int x] M nc ns := by
  intro H locs ls hw hl
  refine W.widen (k := mc) (n := ms) h1 h2 ?_
  rw [hz.eQ]
  exact W.zret hz.exec hz.code hz.ret (of_decide_eq_true hx) (fun t ht hW => ⟨⟨rfl, by rw [ht]; exact hw.1, fun hal j => by rw [ht]; exact hw.2.2 hal j⟩, hw.2.1.F ht⟩) hw.2.1.2.2 hd hz.locks
theorem v_bret0 (hz : Zok z fx al own nm cc (some .byte) nL r mc ms (some (.int 0)) M) (hd : decode cc pc = .ok (.ireturn, 1)) (h1 : nc ≤ mc) (h2 : ns ≤ ms) : V z pc lv [.int 0] M nc ns := by
  intro H locs ls hw hl
  refine W.widen (k := mc) (n := ms) h1 h2 ?_
  rw [hz.eQ]
  exact W.zret hz.exec hz.code hz.ret rfl (fun t ht hW => ⟨⟨rfl, by rw [ht]; exact hw.1, fun hal j => by rw [ht]; exact hw.2.2 hal j⟩, hw.2.1.F ht⟩) hw.2.1.2.2 hd hz.locks
end STRS
/-! ===== the String methods that are reached, over the constants ===== -/
def fJ0_coder (M : Mem) (j : Nat) : Option (Int32 × Mem) := ck (isS j) <| some (0, M)
theorem tJ0_coder (r : Nat) {fx : Fx} {al : Bool} {M N : Mem} {a0 : Nat} {xr : Int32} (w1 : Cond.fieldLink "java/lang/String" 38 "java/lang/String" "COMPACT_STRINGS" "Z" ∈ BIG) (w2 : Cond.fieldLink "java/lang/String" 15 "java/lang/String" "coder" "B" ∈ BIG) (h : fJ0_coder M a0 = some (xr, N)) : Ct fx yJ0_coder_7d493 cJ0_coder_7d493 1 (some .byte) (r + 0) 0 0 al [.retAddr a0] M (some (.int xr)) N := by
  refine ct_of (lv := [some (.retAddr a0)]) (by decide) (Nat.le_of_ble_eq_true rfl) rfl rfl (fun z hz => ?_)
  unfold fJ0_coder at h
  obtain ⟨g, h⟩ := ck_inv h
  cases h
  refine v_getCS hz w1 dJ0_coder_7d493_0 ?_
  refine v_if_eq (tgt := 13) hz dJ0_coder_7d493_3 (by decide) (fun hc => absurd hc (by decide)) (fun _ => ?_)
  refine v_xload_n hz rfl rfl dJ0_coder_7d493_6 ?_
  refine v_xcod hz w2 dJ0_coder_7d493_7 g ?_
  refine v_goto (tgt := 14) hz dJ0_coder_7d493_10 (by decide) ?_
  exact v_bret0 hz dJ0_coder_7d493_14 (by decide) (by decide)
def fJ0_isLatin1 (M : Mem) (j : Nat) : Option (Int32 × Mem) := ck (isS j) <| some (1, M)
theorem tJ0_isLatin1 (r : Nat) {fx : Fx} {al : Bool} {M N : Mem} {a0 : Nat} {xr : Int32} (w1 : Cond.fieldLink "java/lang/String" 38 "java/lang/String" "COMPACT_STRINGS" "Z" ∈ BIG) (w2 : Cond.fieldLink "java/lang/String" 15 "java/lang/String" "coder" "B" ∈ BIG) (h : fJ0_isLatin1 M a0 = some (xr, N)) : Ct fx yJ0_isLatin1_aae02 cJ0_isLatin1_aae02 1 (some .boolean) (r + 0) 0 0 al [.retAddr a0] M (some (.int xr)) N := by
  refine ct_of (lv := [some (.retAddr a0)]) (by decide) (Nat.le_of_ble_eq_true rfl) rfl rfl (fun z hz => ?_)
  unfold fJ0_isLatin1 at h
  obtain ⟨g, h⟩ := ck_inv h
  cases h
  refine v_getCS hz w1 dJ0_isLatin1_aae02_0 ?_
  refine v_if_eq (tgt := 17) hz dJ0_isLatin1_aae02_3 (by decide) (fun hc => absurd hc (by decide)) (fun _ => ?_)
  refine v_xload_n hz rfl rfl dJ0_isLatin1_aae02_6 ?_
  refine v_xcod hz w2 dJ0_isLatin1_aae02_7 g ?_
  refine v_if_ne (tgt := 17) hz dJ0_isLatin1_aae02_10 (by decide) (fun hc => absurd rfl hc) (fun _ => ?_)
  refine v_iconst hz (v := (1 : Int32)) (by decide) dJ0_isLatin1_aae02_13 ?_
  refine v_goto (tgt := 18) hz dJ0_isLatin1_aae02_14 (by decide) ?_
  exact v_zret hz (Or.inr rfl) dJ0_isLatin1_aae02_18 (by decide) (by decide)
end
