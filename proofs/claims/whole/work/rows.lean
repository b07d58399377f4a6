section
-- ===== PART A: goes FIRST, ahead of the names: the tables' words, and 'selects' of the private methods out of them =====
/-- a private method of a class that the tables say can be made, by its rows of tables_1 -/
def lw_okq (q : MethodName × Nat) : Prop := (q.1.cls ≠ "java/lang/invoke/MethodHandle" ∧ q.1.cls ≠ "java/lang/invoke/VarHandle") ∧ Cond.instantiable q.1.cls q.2 ∈ tables_1 ∧ Cond.privateMethod q.1 ∈ tables_1 ∧ Cond.instanceMethod q.1 ∈ tables_1
theorem lw_p0 : lw_okq (⟨"TraceJudge$Types", "find", "(IIII)I"⟩, 9) := ⟨⟨by decide +kernel, by decide +kernel⟩, List.mem_of_getElem? (i := 29) (by decide +kernel), List.mem_of_getElem? (i := 49) (by decide +kernel), List.mem_of_getElem? (i := 50) (by decide +kernel)⟩
theorem lw_p1 : lw_okq (⟨"TraceJudge$Types", "append", "(IIII)I"⟩, 9) := ⟨⟨by decide +kernel, by decide +kernel⟩, List.mem_of_getElem? (i := 29) (by decide +kernel), List.mem_of_getElem? (i := 53) (by decide +kernel), List.mem_of_getElem? (i := 54) (by decide +kernel)⟩
theorem lw_p2 : lw_okq (⟨"TraceJudge", "entryLength", "(I)I"⟩, 10) := ⟨⟨by decide +kernel, by decide +kernel⟩, List.mem_of_getElem? (i := 21) (by decide +kernel), List.mem_of_getElem? (i := 379) (by decide +kernel), List.mem_of_getElem? (i := 380) (by decide +kernel)⟩
theorem lw_p3 : lw_okq (⟨"TraceJudge", "accepts", "(I)Z"⟩, 10) := ⟨⟨by decide +kernel, by decide +kernel⟩, List.mem_of_getElem? (i := 21) (by decide +kernel), List.mem_of_getElem? (i := 389) (by decide +kernel), List.mem_of_getElem? (i := 390) (by decide +kernel)⟩
theorem lw_p4 : lw_okq (⟨"TraceJudge$Entries", "addType", "(I)Z"⟩, 14) := ⟨⟨by decide +kernel, by decide +kernel⟩, List.mem_of_getElem? (i := 146) (by decide +kernel), List.mem_of_getElem? (i := 402) (by decide +kernel), List.mem_of_getElem? (i := 403) (by decide +kernel)⟩
theorem lw_p5 : lw_okq (⟨"TraceJudge$Entries", "addTerm", "(IIII)Z"⟩, 14) := ⟨⟨by decide +kernel, by decide +kernel⟩, List.mem_of_getElem? (i := 146) (by decide +kernel), List.mem_of_getElem? (i := 419) (by decide +kernel), List.mem_of_getElem? (i := 420) (by decide +kernel)⟩
theorem lw_p6 : lw_okq (⟨"TraceJudge$Entries", "growTerms", "()V"⟩, 14) := ⟨⟨by decide +kernel, by decide +kernel⟩, List.mem_of_getElem? (i := 146) (by decide +kernel), List.mem_of_getElem? (i := 425) (by decide +kernel), List.mem_of_getElem? (i := 426) (by decide +kernel)⟩
theorem lw_p7 : lw_okq (⟨"TraceJudge$Entries", "looseOf", "(III)I"⟩, 14) := ⟨⟨by decide +kernel, by decide +kernel⟩, List.mem_of_getElem? (i := 146) (by decide +kernel), List.mem_of_getElem? (i := 429) (by decide +kernel), List.mem_of_getElem? (i := 430) (by decide +kernel)⟩
theorem lw_p8 : lw_okq (⟨"TraceJudge$Types", "matches", "(III)Z"⟩, 9) := ⟨⟨by decide +kernel, by decide +kernel⟩, List.mem_of_getElem? (i := 29) (by decide +kernel), List.mem_of_getElem? (i := 449) (by decide +kernel), List.mem_of_getElem? (i := 450) (by decide +kernel)⟩
theorem lw_p9 : lw_okq (⟨"TraceJudge$Entries", "bindsType", "(II)Z"⟩, 14) := ⟨⟨by decide +kernel, by decide +kernel⟩, List.mem_of_getElem? (i := 146) (by decide +kernel), List.mem_of_getElem? (i := 469) (by decide +kernel), List.mem_of_getElem? (i := 470) (by decide +kernel)⟩
theorem lw_p10 : lw_okq (⟨"TraceJudge$Rows", "isLow", "(II)Z"⟩, 8) := ⟨⟨by decide +kernel, by decide +kernel⟩, List.mem_of_getElem? (i := 202) (by decide +kernel), List.mem_of_getElem? (i := 508) (by decide +kernel), List.mem_of_getElem? (i := 509) (by decide +kernel)⟩
theorem lw_p11 : lw_okq (⟨"TraceJudge$Steps", "equationOf", "(I)LTraceJudge$Equation;"⟩, 5) := ⟨⟨by decide +kernel, by decide +kernel⟩, List.mem_of_getElem? (i := 286) (by decide +kernel), List.mem_of_getElem? (i := 517) (by decide +kernel), List.mem_of_getElem? (i := 518) (by decide +kernel)⟩
theorem lw_p12 : lw_okq (⟨"TraceJudge$Steps", "copyWith", "(III)V"⟩, 5) := ⟨⟨by decide +kernel, by decide +kernel⟩, List.mem_of_getElem? (i := 286) (by decide +kernel), List.mem_of_getElem? (i := 632) (by decide +kernel), List.mem_of_getElem? (i := 633) (by decide +kernel)⟩
theorem lw_p13 : lw_okq (⟨"TraceJudge$Types", "imageOf", "(I)I"⟩, 9) := ⟨⟨by decide +kernel, by decide +kernel⟩, List.mem_of_getElem? (i := 29) (by decide +kernel), List.mem_of_getElem? (i := 667) (by decide +kernel), List.mem_of_getElem? (i := 668) (by decide +kernel)⟩
theorem lw_p14 : lw_okq (⟨"TraceJudge$Steps", "hasVariablesOf", "(III)Z"⟩, 5) := ⟨⟨by decide +kernel, by decide +kernel⟩, List.mem_of_getElem? (i := 286) (by decide +kernel), List.mem_of_getElem? (i := 687) (by decide +kernel), List.mem_of_getElem? (i := 688) (by decide +kernel)⟩
theorem lw_p15 : lw_okq (⟨"TraceJudge$Steps", "newType", "(II)I"⟩, 5) := ⟨⟨by decide +kernel, by decide +kernel⟩, List.mem_of_getElem? (i := 286) (by decide +kernel), List.mem_of_getElem? (i := 710) (by decide +kernel), List.mem_of_getElem? (i := 711) (by decide +kernel)⟩
def lw_privs_1 : List (MethodName × Nat) := [(⟨"TraceJudge$Types", "find", "(IIII)I"⟩, 9), (⟨"TraceJudge$Types", "append", "(IIII)I"⟩, 9), (⟨"TraceJudge", "entryLength", "(I)I"⟩, 10), (⟨"TraceJudge", "accepts", "(I)Z"⟩, 10), (⟨"TraceJudge$Entries", "addType", "(I)Z"⟩, 14), (⟨"TraceJudge$Entries", "addTerm", "(IIII)Z"⟩, 14), (⟨"TraceJudge$Entries", "growTerms", "()V"⟩, 14), (⟨"TraceJudge$Entries", "looseOf", "(III)I"⟩, 14), (⟨"TraceJudge$Types", "matches", "(III)Z"⟩, 9), (⟨"TraceJudge$Entries", "bindsType", "(II)Z"⟩, 14), (⟨"TraceJudge$Rows", "isLow", "(II)Z"⟩, 8), (⟨"TraceJudge$Steps", "equationOf", "(I)LTraceJudge$Equation;"⟩, 5), (⟨"TraceJudge$Steps", "copyWith", "(III)V"⟩, 5), (⟨"TraceJudge$Types", "imageOf", "(I)I"⟩, 9), (⟨"TraceJudge$Steps", "hasVariablesOf", "(III)Z"⟩, 5), (⟨"TraceJudge$Steps", "newType", "(II)I"⟩, 5)]
theorem lw_r1 : ∀ q ∈ lw_privs_1, lw_okq q := List.forall_mem_cons.mpr ⟨lw_p0, List.forall_mem_cons.mpr ⟨lw_p1, List.forall_mem_cons.mpr ⟨lw_p2, List.forall_mem_cons.mpr ⟨lw_p3, List.forall_mem_cons.mpr ⟨lw_p4, List.forall_mem_cons.mpr ⟨lw_p5, List.forall_mem_cons.mpr ⟨lw_p6, List.forall_mem_cons.mpr ⟨lw_p7, List.forall_mem_cons.mpr ⟨lw_p8, List.forall_mem_cons.mpr ⟨lw_p9, List.forall_mem_cons.mpr ⟨lw_p10, List.forall_mem_cons.mpr ⟨lw_p11, List.forall_mem_cons.mpr ⟨lw_p12, List.forall_mem_cons.mpr ⟨lw_p13, List.forall_mem_cons.mpr ⟨lw_p14, List.forall_mem_cons.mpr ⟨lw_p15, fun _ h => absurd h List.not_mem_nil⟩⟩⟩⟩⟩⟩⟩⟩⟩⟩⟩⟩⟩⟩⟩⟩
theorem lw_p16 : lw_okq (⟨"TraceJudge$Axioms", "endOf", "(I)I"⟩, 5) := ⟨⟨by decide +kernel, by decide +kernel⟩, List.mem_of_getElem? (i := 308) (by decide +kernel), List.mem_of_getElem? (i := 745) (by decide +kernel), List.mem_of_getElem? (i := 746) (by decide +kernel)⟩
theorem lw_p17 : lw_okq (⟨"TraceJudge$Axioms", "typeAt", "(I)I"⟩, 5) := ⟨⟨by decide +kernel, by decide +kernel⟩, List.mem_of_getElem? (i := 308) (by decide +kernel), List.mem_of_getElem? (i := 749) (by decide +kernel), List.mem_of_getElem? (i := 750) (by decide +kernel)⟩
theorem lw_p18 : lw_okq (⟨"TraceJudge$Axioms", "writeBinding", "(III)V"⟩, 5) := ⟨⟨by decide +kernel, by decide +kernel⟩, List.mem_of_getElem? (i := 308) (by decide +kernel), List.mem_of_getElem? (i := 756) (by decide +kernel), List.mem_of_getElem? (i := 757) (by decide +kernel)⟩
theorem lw_p19 : lw_okq (⟨"TraceJudge$Axioms", "writeAnd", "(III)V"⟩, 5) := ⟨⟨by decide +kernel, by decide +kernel⟩, List.mem_of_getElem? (i := 308) (by decide +kernel), List.mem_of_getElem? (i := 761) (by decide +kernel), List.mem_of_getElem? (i := 762) (by decide +kernel)⟩
theorem lw_p20 : lw_okq (⟨"TraceJudge$Axioms", "writeAll", "(III)V"⟩, 5) := ⟨⟨by decide +kernel, by decide +kernel⟩, List.mem_of_getElem? (i := 308) (by decide +kernel), List.mem_of_getElem? (i := 766) (by decide +kernel), List.mem_of_getElem? (i := 767) (by decide +kernel)⟩
theorem lw_p21 : lw_okq (⟨"TraceJudge$Axioms", "writeExists", "(III)V"⟩, 5) := ⟨⟨by decide +kernel, by decide +kernel⟩, List.mem_of_getElem? (i := 308) (by decide +kernel), List.mem_of_getElem? (i := 770) (by decide +kernel), List.mem_of_getElem? (i := 771) (by decide +kernel)⟩
theorem lw_p22 : lw_okq (⟨"TraceJudge$Axioms", "writeName", "(II)V"⟩, 5) := ⟨⟨by decide +kernel, by decide +kernel⟩, List.mem_of_getElem? (i := 308) (by decide +kernel), List.mem_of_getElem? (i := 774) (by decide +kernel), List.mem_of_getElem? (i := 775) (by decide +kernel)⟩
theorem lw_p23 : lw_okq (⟨"java/lang/Throwable", "fillInStackTrace", "(I)Ljava/lang/Throwable;"⟩, 6) := ⟨⟨by decide +kernel, by decide +kernel⟩, List.mem_of_getElem? (i := 853) (by decide +kernel), List.mem_of_getElem? (i := 851) (by decide +kernel), List.mem_of_getElem? (i := 852) (by decide +kernel)⟩
theorem lw_p24 : lw_okq (⟨"TraceJudgeModel", "typeOf", "(III)I"⟩, 53) := ⟨⟨by decide +kernel, by decide +kernel⟩, List.mem_of_getElem? (i := 975) (by decide +kernel), List.mem_of_getElem? (i := 983) (by decide +kernel), List.mem_of_getElem? (i := 984) (by decide +kernel)⟩
theorem lw_p25 : lw_okq (⟨"TraceJudgeModel", "need", "(Z)Z"⟩, 53) := ⟨⟨by decide +kernel, by decide +kernel⟩, List.mem_of_getElem? (i := 975) (by decide +kernel), List.mem_of_getElem? (i := 990) (by decide +kernel), List.mem_of_getElem? (i := 991) (by decide +kernel)⟩
theorem lw_p26 : lw_okq (⟨"TraceJudgeModel", "truths", "()I"⟩, 53) := ⟨⟨by decide +kernel, by decide +kernel⟩, List.mem_of_getElem? (i := 975) (by decide +kernel), List.mem_of_getElem? (i := 994) (by decide +kernel), List.mem_of_getElem? (i := 995) (by decide +kernel)⟩
theorem lw_p27 : lw_okq (⟨"TraceJudgeModel", "functions", "(II)I"⟩, 53) := ⟨⟨by decide +kernel, by decide +kernel⟩, List.mem_of_getElem? (i := 975) (by decide +kernel), List.mem_of_getElem? (i := 998) (by decide +kernel), List.mem_of_getElem? (i := 999) (by decide +kernel)⟩
theorem lw_p28 : lw_okq (⟨"TraceJudgeModel", "next", "()I"⟩, 53) := ⟨⟨by decide +kernel, by decide +kernel⟩, List.mem_of_getElem? (i := 975) (by decide +kernel), List.mem_of_getElem? (i := 1174) (by decide +kernel), List.mem_of_getElem? (i := 1175) (by decide +kernel)⟩
theorem lw_p29 : lw_okq (⟨"TraceJudgeModel", "readType", "(I)V"⟩, 53) := ⟨⟨by decide +kernel, by decide +kernel⟩, List.mem_of_getElem? (i := 975) (by decide +kernel), List.mem_of_getElem? (i := 1178) (by decide +kernel), List.mem_of_getElem? (i := 1179) (by decide +kernel)⟩
theorem lw_p30 : lw_okq (⟨"TraceJudgeModel", "keepType", "(I)V"⟩, 53) := ⟨⟨by decide +kernel, by decide +kernel⟩, List.mem_of_getElem? (i := 975) (by decide +kernel), List.mem_of_getElem? (i := 1186) (by decide +kernel), List.mem_of_getElem? (i := 1187) (by decide +kernel)⟩
theorem lw_p31 : lw_okq (⟨"TraceJudgeModel", "nextType", "()I"⟩, 53) := ⟨⟨by decide +kernel, by decide +kernel⟩, List.mem_of_getElem? (i := 975) (by decide +kernel), List.mem_of_getElem? (i := 1190) (by decide +kernel), List.mem_of_getElem? (i := 1191) (by decide +kernel)⟩
def lw_privs_2 : List (MethodName × Nat) := [(⟨"TraceJudge$Axioms", "endOf", "(I)I"⟩, 5), (⟨"TraceJudge$Axioms", "typeAt", "(I)I"⟩, 5), (⟨"TraceJudge$Axioms", "writeBinding", "(III)V"⟩, 5), (⟨"TraceJudge$Axioms", "writeAnd", "(III)V"⟩, 5), (⟨"TraceJudge$Axioms", "writeAll", "(III)V"⟩, 5), (⟨"TraceJudge$Axioms", "writeExists", "(III)V"⟩, 5), (⟨"TraceJudge$Axioms", "writeName", "(II)V"⟩, 5), (⟨"java/lang/Throwable", "fillInStackTrace", "(I)Ljava/lang/Throwable;"⟩, 6), (⟨"TraceJudgeModel", "typeOf", "(III)I"⟩, 53), (⟨"TraceJudgeModel", "need", "(Z)Z"⟩, 53), (⟨"TraceJudgeModel", "truths", "()I"⟩, 53), (⟨"TraceJudgeModel", "functions", "(II)I"⟩, 53), (⟨"TraceJudgeModel", "next", "()I"⟩, 53), (⟨"TraceJudgeModel", "readType", "(I)V"⟩, 53), (⟨"TraceJudgeModel", "keepType", "(I)V"⟩, 53), (⟨"TraceJudgeModel", "nextType", "()I"⟩, 53)]
theorem lw_r2 : ∀ q ∈ lw_privs_2, lw_okq q := List.forall_mem_cons.mpr ⟨lw_p16, List.forall_mem_cons.mpr ⟨lw_p17, List.forall_mem_cons.mpr ⟨lw_p18, List.forall_mem_cons.mpr ⟨lw_p19, List.forall_mem_cons.mpr ⟨lw_p20, List.forall_mem_cons.mpr ⟨lw_p21, List.forall_mem_cons.mpr ⟨lw_p22, List.forall_mem_cons.mpr ⟨lw_p23, List.forall_mem_cons.mpr ⟨lw_p24, List.forall_mem_cons.mpr ⟨lw_p25, List.forall_mem_cons.mpr ⟨lw_p26, List.forall_mem_cons.mpr ⟨lw_p27, List.forall_mem_cons.mpr ⟨lw_p28, List.forall_mem_cons.mpr ⟨lw_p29, List.forall_mem_cons.mpr ⟨lw_p30, List.forall_mem_cons.mpr ⟨lw_p31, fun _ h => absurd h List.not_mem_nil⟩⟩⟩⟩⟩⟩⟩⟩⟩⟩⟩⟩⟩⟩⟩⟩
theorem lw_p32 : lw_okq (⟨"TraceJudgeModel", "readTerm", "(I)V"⟩, 53) := ⟨⟨by decide +kernel, by decide +kernel⟩, List.mem_of_getElem? (i := 975) (by decide +kernel), List.mem_of_getElem? (i := 1194) (by decide +kernel), List.mem_of_getElem? (i := 1195) (by decide +kernel)⟩
theorem lw_p33 : lw_okq (⟨"TraceJudgeModel", "nextTerm", "()I"⟩, 53) := ⟨⟨by decide +kernel, by decide +kernel⟩, List.mem_of_getElem? (i := 975) (by decide +kernel), List.mem_of_getElem? (i := 1198) (by decide +kernel), List.mem_of_getElem? (i := 1199) (by decide +kernel)⟩
theorem lw_p34 : lw_okq (⟨"TraceJudgeModel", "canApply", "(II)Z"⟩, 53) := ⟨⟨by decide +kernel, by decide +kernel⟩, List.mem_of_getElem? (i := 975) (by decide +kernel), List.mem_of_getElem? (i := 1202) (by decide +kernel), List.mem_of_getElem? (i := 1203) (by decide +kernel)⟩
theorem lw_p35 : lw_okq (⟨"TraceJudgeModel", "apply", "(II)I"⟩, 53) := ⟨⟨by decide +kernel, by decide +kernel⟩, List.mem_of_getElem? (i := 975) (by decide +kernel), List.mem_of_getElem? (i := 1206) (by decide +kernel), List.mem_of_getElem? (i := 1207) (by decide +kernel)⟩
theorem lw_p36 : lw_okq (⟨"TraceJudgeModel", "node", "(IIII)I"⟩, 53) := ⟨⟨by decide +kernel, by decide +kernel⟩, List.mem_of_getElem? (i := 975) (by decide +kernel), List.mem_of_getElem? (i := 1210) (by decide +kernel), List.mem_of_getElem? (i := 1211) (by decide +kernel)⟩
theorem lw_p37 : lw_okq (⟨"TraceJudgeModel", "keepTerm", "(I)V"⟩, 53) := ⟨⟨by decide +kernel, by decide +kernel⟩, List.mem_of_getElem? (i := 975) (by decide +kernel), List.mem_of_getElem? (i := 1214) (by decide +kernel), List.mem_of_getElem? (i := 1215) (by decide +kernel)⟩
theorem lw_p38 : lw_okq (⟨"TraceJudgeModel", "isOf", "(III)Z"⟩, 53) := ⟨⟨by decide +kernel, by decide +kernel⟩, List.mem_of_getElem? (i := 975) (by decide +kernel), List.mem_of_getElem? (i := 1218) (by decide +kernel), List.mem_of_getElem? (i := 1219) (by decide +kernel)⟩
theorem lw_p39 : lw_okq (⟨"TraceJudgeModel", "abstracted", "(II)I"⟩, 53) := ⟨⟨by decide +kernel, by decide +kernel⟩, List.mem_of_getElem? (i := 975) (by decide +kernel), List.mem_of_getElem? (i := 1222) (by decide +kernel), List.mem_of_getElem? (i := 1223) (by decide +kernel)⟩
theorem lw_p40 : lw_okq (⟨"TraceJudgeModel", "fits", "(II)Z"⟩, 53) := ⟨⟨by decide +kernel, by decide +kernel⟩, List.mem_of_getElem? (i := 975) (by decide +kernel), List.mem_of_getElem? (i := 1226) (by decide +kernel), List.mem_of_getElem? (i := 1227) (by decide +kernel)⟩
theorem lw_p41 : lw_okq (⟨"TraceJudgeModel", "readStep", "(I)V"⟩, 53) := ⟨⟨by decide +kernel, by decide +kernel⟩, List.mem_of_getElem? (i := 975) (by decide +kernel), List.mem_of_getElem? (i := 1230) (by decide +kernel), List.mem_of_getElem? (i := 1231) (by decide +kernel)⟩
theorem lw_p42 : lw_okq (⟨"TraceJudgeModel", "nextClosed", "()I"⟩, 53) := ⟨⟨by decide +kernel, by decide +kernel⟩, List.mem_of_getElem? (i := 975) (by decide +kernel), List.mem_of_getElem? (i := 1234) (by decide +kernel), List.mem_of_getElem? (i := 1235) (by decide +kernel)⟩
theorem lw_p43 : lw_okq (⟨"TraceJudgeModel", "stepOfTerm", "(II)V"⟩, 53) := ⟨⟨by decide +kernel, by decide +kernel⟩, List.mem_of_getElem? (i := 975) (by decide +kernel), List.mem_of_getElem? (i := 1238) (by decide +kernel), List.mem_of_getElem? (i := 1239) (by decide +kernel)⟩
theorem lw_p44 : lw_okq (⟨"TraceJudgeModel", "open", "()V"⟩, 53) := ⟨⟨by decide +kernel, by decide +kernel⟩, List.mem_of_getElem? (i := 975) (by decide +kernel), List.mem_of_getElem? (i := 1242) (by decide +kernel), List.mem_of_getElem? (i := 1243) (by decide +kernel)⟩
theorem lw_p45 : lw_okq (⟨"TraceJudgeModel", "equation", "(II)I"⟩, 53) := ⟨⟨by decide +kernel, by decide +kernel⟩, List.mem_of_getElem? (i := 975) (by decide +kernel), List.mem_of_getElem? (i := 1246) (by decide +kernel), List.mem_of_getElem? (i := 1247) (by decide +kernel)⟩
theorem lw_p46 : lw_okq (⟨"TraceJudgeModel", "constant", "(II)I"⟩, 53) := ⟨⟨by decide +kernel, by decide +kernel⟩, List.mem_of_getElem? (i := 975) (by decide +kernel), List.mem_of_getElem? (i := 1250) (by decide +kernel), List.mem_of_getElem? (i := 1251) (by decide +kernel)⟩
theorem lw_p47 : lw_okq (⟨"TraceJudgeModel", "close", "(II)V"⟩, 53) := ⟨⟨by decide +kernel, by decide +kernel⟩, List.mem_of_getElem? (i := 975) (by decide +kernel), List.mem_of_getElem? (i := 1254) (by decide +kernel), List.mem_of_getElem? (i := 1255) (by decide +kernel)⟩
def lw_privs_3 : List (MethodName × Nat) := [(⟨"TraceJudgeModel", "readTerm", "(I)V"⟩, 53), (⟨"TraceJudgeModel", "nextTerm", "()I"⟩, 53), (⟨"TraceJudgeModel", "canApply", "(II)Z"⟩, 53), (⟨"TraceJudgeModel", "apply", "(II)I"⟩, 53), (⟨"TraceJudgeModel", "node", "(IIII)I"⟩, 53), (⟨"TraceJudgeModel", "keepTerm", "(I)V"⟩, 53), (⟨"TraceJudgeModel", "isOf", "(III)Z"⟩, 53), (⟨"TraceJudgeModel", "abstracted", "(II)I"⟩, 53), (⟨"TraceJudgeModel", "fits", "(II)Z"⟩, 53), (⟨"TraceJudgeModel", "readStep", "(I)V"⟩, 53), (⟨"TraceJudgeModel", "nextClosed", "()I"⟩, 53), (⟨"TraceJudgeModel", "stepOfTerm", "(II)V"⟩, 53), (⟨"TraceJudgeModel", "open", "()V"⟩, 53), (⟨"TraceJudgeModel", "equation", "(II)I"⟩, 53), (⟨"TraceJudgeModel", "constant", "(II)I"⟩, 53), (⟨"TraceJudgeModel", "close", "(II)V"⟩, 53)]
theorem lw_r3 : ∀ q ∈ lw_privs_3, lw_okq q := List.forall_mem_cons.mpr ⟨lw_p32, List.forall_mem_cons.mpr ⟨lw_p33, List.forall_mem_cons.mpr ⟨lw_p34, List.forall_mem_cons.mpr ⟨lw_p35, List.forall_mem_cons.mpr ⟨lw_p36, List.forall_mem_cons.mpr ⟨lw_p37, List.forall_mem_cons.mpr ⟨lw_p38, List.forall_mem_cons.mpr ⟨lw_p39, List.forall_mem_cons.mpr ⟨lw_p40, List.forall_mem_cons.mpr ⟨lw_p41, List.forall_mem_cons.mpr ⟨lw_p42, List.forall_mem_cons.mpr ⟨lw_p43, List.forall_mem_cons.mpr ⟨lw_p44, List.forall_mem_cons.mpr ⟨lw_p45, List.forall_mem_cons.mpr ⟨lw_p46, List.forall_mem_cons.mpr ⟨lw_p47, fun _ h => absurd h List.not_mem_nil⟩⟩⟩⟩⟩⟩⟩⟩⟩⟩⟩⟩⟩⟩⟩⟩
theorem lw_p48 : lw_okq (⟨"TraceJudgeModel", "noteState", "(I)V"⟩, 53) := ⟨⟨by decide +kernel, by decide +kernel⟩, List.mem_of_getElem? (i := 975) (by decide +kernel), List.mem_of_getElem? (i := 1258) (by decide +kernel), List.mem_of_getElem? (i := 1259) (by decide +kernel)⟩
theorem lw_p49 : lw_okq (⟨"TraceJudgeModel", "opened", "(III)I"⟩, 53) := ⟨⟨by decide +kernel, by decide +kernel⟩, List.mem_of_getElem? (i := 975) (by decide +kernel), List.mem_of_getElem? (i := 1262) (by decide +kernel), List.mem_of_getElem? (i := 1263) (by decide +kernel)⟩
theorem lw_p50 : lw_okq (⟨"TraceJudgeModel", "add", "(I)V"⟩, 53) := ⟨⟨by decide +kernel, by decide +kernel⟩, List.mem_of_getElem? (i := 975) (by decide +kernel), List.mem_of_getElem? (i := 1266) (by decide +kernel), List.mem_of_getElem? (i := 1267) (by decide +kernel)⟩
theorem lw_p51 : lw_okq (⟨"TraceJudgeModel", "define", "(I)V"⟩, 53) := ⟨⟨by decide +kernel, by decide +kernel⟩, List.mem_of_getElem? (i := 975) (by decide +kernel), List.mem_of_getElem? (i := 1270) (by decide +kernel), List.mem_of_getElem? (i := 1271) (by decide +kernel)⟩
theorem lw_p52 : lw_okq (⟨"TraceJudgeModel", "noteAll", "(I)Z"⟩, 53) := ⟨⟨by decide +kernel, by decide +kernel⟩, List.mem_of_getElem? (i := 975) (by decide +kernel), List.mem_of_getElem? (i := 1274) (by decide +kernel), List.mem_of_getElem? (i := 1275) (by decide +kernel)⟩
theorem lw_p53 : lw_okq (⟨"TraceJudgeModel", "noteType", "(I)V"⟩, 53) := ⟨⟨by decide +kernel, by decide +kernel⟩, List.mem_of_getElem? (i := 975) (by decide +kernel), List.mem_of_getElem? (i := 1278) (by decide +kernel), List.mem_of_getElem? (i := 1279) (by decide +kernel)⟩
theorem lw_p54 : lw_okq (⟨"TraceJudgeModel", "nextSequent", "()I"⟩, 53) := ⟨⟨by decide +kernel, by decide +kernel⟩, List.mem_of_getElem? (i := 975) (by decide +kernel), List.mem_of_getElem? (i := 1282) (by decide +kernel), List.mem_of_getElem? (i := 1283) (by decide +kernel)⟩
theorem lw_p55 : lw_okq (⟨"TraceJudgeModel", "stepOfTwo", "(III)V"⟩, 53) := ⟨⟨by decide +kernel, by decide +kernel⟩, List.mem_of_getElem? (i := 975) (by decide +kernel), List.mem_of_getElem? (i := 1286) (by decide +kernel), List.mem_of_getElem? (i := 1287) (by decide +kernel)⟩
theorem lw_p56 : lw_okq (⟨"TraceJudgeModel", "addAll", "(II)V"⟩, 53) := ⟨⟨by decide +kernel, by decide +kernel⟩, List.mem_of_getElem? (i := 975) (by decide +kernel), List.mem_of_getElem? (i := 1290) (by decide +kernel), List.mem_of_getElem? (i := 1291) (by decide +kernel)⟩
theorem lw_p57 : lw_okq (⟨"TraceJudgeModel", "isEquation", "(I)Z"⟩, 53) := ⟨⟨by decide +kernel, by decide +kernel⟩, List.mem_of_getElem? (i := 975) (by decide +kernel), List.mem_of_getElem? (i := 1294) (by decide +kernel), List.mem_of_getElem? (i := 1295) (by decide +kernel)⟩
theorem lw_p58 : lw_okq (⟨"TraceJudgeModel", "joined", "(II)V"⟩, 53) := ⟨⟨by decide +kernel, by decide +kernel⟩, List.mem_of_getElem? (i := 975) (by decide +kernel), List.mem_of_getElem? (i := 1298) (by decide +kernel), List.mem_of_getElem? (i := 1299) (by decide +kernel)⟩
theorem lw_p59 : lw_okq (⟨"TraceJudgeModel", "leftOf", "(I)I"⟩, 53) := ⟨⟨by decide +kernel, by decide +kernel⟩, List.mem_of_getElem? (i := 975) (by decide +kernel), List.mem_of_getElem? (i := 1302) (by decide +kernel), List.mem_of_getElem? (i := 1303) (by decide +kernel)⟩
theorem lw_p60 : lw_okq (⟨"TraceJudgeModel", "stepAbstract", "(II)V"⟩, 53) := ⟨⟨by decide +kernel, by decide +kernel⟩, List.mem_of_getElem? (i := 975) (by decide +kernel), List.mem_of_getElem? (i := 1306) (by decide +kernel), List.mem_of_getElem? (i := 1307) (by decide +kernel)⟩
theorem lw_p61 : lw_okq (⟨"TraceJudgeModel", "occurs", "(II)Z"⟩, 53) := ⟨⟨by decide +kernel, by decide +kernel⟩, List.mem_of_getElem? (i := 975) (by decide +kernel), List.mem_of_getElem? (i := 1310) (by decide +kernel), List.mem_of_getElem? (i := 1311) (by decide +kernel)⟩
theorem lw_p62 : lw_okq (⟨"TraceJudgeModel", "abstraction", "(II)I"⟩, 53) := ⟨⟨by decide +kernel, by decide +kernel⟩, List.mem_of_getElem? (i := 975) (by decide +kernel), List.mem_of_getElem? (i := 1314) (by decide +kernel), List.mem_of_getElem? (i := 1315) (by decide +kernel)⟩
theorem lw_p63 : lw_okq (⟨"TraceJudgeModel", "bind", "(III)I"⟩, 53) := ⟨⟨by decide +kernel, by decide +kernel⟩, List.mem_of_getElem? (i := 975) (by decide +kernel), List.mem_of_getElem? (i := 1318) (by decide +kernel), List.mem_of_getElem? (i := 1319) (by decide +kernel)⟩
def lw_privs_4 : List (MethodName × Nat) := [(⟨"TraceJudgeModel", "noteState", "(I)V"⟩, 53), (⟨"TraceJudgeModel", "opened", "(III)I"⟩, 53), (⟨"TraceJudgeModel", "add", "(I)V"⟩, 53), (⟨"TraceJudgeModel", "define", "(I)V"⟩, 53), (⟨"TraceJudgeModel", "noteAll", "(I)Z"⟩, 53), (⟨"TraceJudgeModel", "noteType", "(I)V"⟩, 53), (⟨"TraceJudgeModel", "nextSequent", "()I"⟩, 53), (⟨"TraceJudgeModel", "stepOfTwo", "(III)V"⟩, 53), (⟨"TraceJudgeModel", "addAll", "(II)V"⟩, 53), (⟨"TraceJudgeModel", "isEquation", "(I)Z"⟩, 53), (⟨"TraceJudgeModel", "joined", "(II)V"⟩, 53), (⟨"TraceJudgeModel", "leftOf", "(I)I"⟩, 53), (⟨"TraceJudgeModel", "stepAbstract", "(II)V"⟩, 53), (⟨"TraceJudgeModel", "occurs", "(II)Z"⟩, 53), (⟨"TraceJudgeModel", "abstraction", "(II)I"⟩, 53), (⟨"TraceJudgeModel", "bind", "(III)I"⟩, 53)]
theorem lw_r4 : ∀ q ∈ lw_privs_4, lw_okq q := List.forall_mem_cons.mpr ⟨lw_p48, List.forall_mem_cons.mpr ⟨lw_p49, List.forall_mem_cons.mpr ⟨lw_p50, List.forall_mem_cons.mpr ⟨lw_p51, List.forall_mem_cons.mpr ⟨lw_p52, List.forall_mem_cons.mpr ⟨lw_p53, List.forall_mem_cons.mpr ⟨lw_p54, List.forall_mem_cons.mpr ⟨lw_p55, List.forall_mem_cons.mpr ⟨lw_p56, List.forall_mem_cons.mpr ⟨lw_p57, List.forall_mem_cons.mpr ⟨lw_p58, List.forall_mem_cons.mpr ⟨lw_p59, List.forall_mem_cons.mpr ⟨lw_p60, List.forall_mem_cons.mpr ⟨lw_p61, List.forall_mem_cons.mpr ⟨lw_p62, List.forall_mem_cons.mpr ⟨lw_p63, fun _ h => absurd h List.not_mem_nil⟩⟩⟩⟩⟩⟩⟩⟩⟩⟩⟩⟩⟩⟩⟩⟩
theorem lw_p64 : lw_okq (⟨"TraceJudgeModel", "stepPut", "()V"⟩, 53) := ⟨⟨by decide +kernel, by decide +kernel⟩, List.mem_of_getElem? (i := 975) (by decide +kernel), List.mem_of_getElem? (i := 1322) (by decide +kernel), List.mem_of_getElem? (i := 1323) (by decide +kernel)⟩
theorem lw_p65 : lw_okq (⟨"TraceJudgeModel", "replaced", "(III)I"⟩, 53) := ⟨⟨by decide +kernel, by decide +kernel⟩, List.mem_of_getElem? (i := 975) (by decide +kernel), List.mem_of_getElem? (i := 1326) (by decide +kernel), List.mem_of_getElem? (i := 1327) (by decide +kernel)⟩
theorem lw_p66 : lw_okq (⟨"TraceJudgeModel", "stepRetype", "()V"⟩, 53) := ⟨⟨by decide +kernel, by decide +kernel⟩, List.mem_of_getElem? (i := 975) (by decide +kernel), List.mem_of_getElem? (i := 1330) (by decide +kernel), List.mem_of_getElem? (i := 1331) (by decide +kernel)⟩
theorem lw_p67 : lw_okq (⟨"TraceJudgeModel", "variableOf", "(I)I"⟩, 53) := ⟨⟨by decide +kernel, by decide +kernel⟩, List.mem_of_getElem? (i := 975) (by decide +kernel), List.mem_of_getElem? (i := 1334) (by decide +kernel), List.mem_of_getElem? (i := 1335) (by decide +kernel)⟩
theorem lw_p68 : lw_okq (⟨"TraceJudgeModel", "retyped", "(I)I"⟩, 53) := ⟨⟨by decide +kernel, by decide +kernel⟩, List.mem_of_getElem? (i := 975) (by decide +kernel), List.mem_of_getElem? (i := 1338) (by decide +kernel), List.mem_of_getElem? (i := 1339) (by decide +kernel)⟩
theorem lw_p69 : lw_okq (⟨"TraceJudgeModel", "exchanged", "(I)I"⟩, 53) := ⟨⟨by decide +kernel, by decide +kernel⟩, List.mem_of_getElem? (i := 975) (by decide +kernel), List.mem_of_getElem? (i := 1342) (by decide +kernel), List.mem_of_getElem? (i := 1343) (by decide +kernel)⟩
theorem lw_p70 : lw_okq (⟨"TraceJudgeModel", "stepType", "(I)V"⟩, 53) := ⟨⟨by decide +kernel, by decide +kernel⟩, List.mem_of_getElem? (i := 975) (by decide +kernel), List.mem_of_getElem? (i := 1346) (by decide +kernel), List.mem_of_getElem? (i := 1347) (by decide +kernel)⟩
theorem lw_p71 : lw_okq (⟨"TraceJudgeModel", "free", "(II)I"⟩, 53) := ⟨⟨by decide +kernel, by decide +kernel⟩, List.mem_of_getElem? (i := 975) (by decide +kernel), List.mem_of_getElem? (i := 1350) (by decide +kernel), List.mem_of_getElem? (i := 1351) (by decide +kernel)⟩
theorem lw_p72 : lw_okq (⟨"TraceJudgeModel", "stepAxiom", "(I)V"⟩, 53) := ⟨⟨by decide +kernel, by decide +kernel⟩, List.mem_of_getElem? (i := 975) (by decide +kernel), List.mem_of_getElem? (i := 1354) (by decide +kernel), List.mem_of_getElem? (i := 1355) (by decide +kernel)⟩
theorem lw_p73 : lw_okq (⟨"TraceJudgeModel", "extensionality", "()I"⟩, 53) := ⟨⟨by decide +kernel, by decide +kernel⟩, List.mem_of_getElem? (i := 975) (by decide +kernel), List.mem_of_getElem? (i := 1358) (by decide +kernel), List.mem_of_getElem? (i := 1359) (by decide +kernel)⟩
theorem lw_p74 : lw_okq (⟨"TraceJudgeModel", "chosen", "()I"⟩, 53) := ⟨⟨by decide +kernel, by decide +kernel⟩, List.mem_of_getElem? (i := 975) (by decide +kernel), List.mem_of_getElem? (i := 1362) (by decide +kernel), List.mem_of_getElem? (i := 1363) (by decide +kernel)⟩
theorem lw_p75 : lw_okq (⟨"TraceJudgeModel", "choiceOf", "(I)I"⟩, 53) := ⟨⟨by decide +kernel, by decide +kernel⟩, List.mem_of_getElem? (i := 975) (by decide +kernel), List.mem_of_getElem? (i := 1366) (by decide +kernel), List.mem_of_getElem? (i := 1367) (by decide +kernel)⟩
theorem lw_p76 : lw_okq (⟨"TraceJudgeModel", "implies", "(II)I"⟩, 53) := ⟨⟨by decide +kernel, by decide +kernel⟩, List.mem_of_getElem? (i := 975) (by decide +kernel), List.mem_of_getElem? (i := 1370) (by decide +kernel), List.mem_of_getElem? (i := 1371) (by decide +kernel)⟩
theorem lw_p77 : lw_okq (⟨"TraceJudgeModel", "and", "(II)I"⟩, 53) := ⟨⟨by decide +kernel, by decide +kernel⟩, List.mem_of_getElem? (i := 975) (by decide +kernel), List.mem_of_getElem? (i := 1374) (by decide +kernel), List.mem_of_getElem? (i := 1375) (by decide +kernel)⟩
theorem lw_p78 : lw_okq (⟨"TraceJudgeModel", "truth", "()I"⟩, 53) := ⟨⟨by decide +kernel, by decide +kernel⟩, List.mem_of_getElem? (i := 975) (by decide +kernel), List.mem_of_getElem? (i := 1378) (by decide +kernel), List.mem_of_getElem? (i := 1379) (by decide +kernel)⟩
theorem lw_p79 : lw_okq (⟨"TraceJudgeModel", "named", "(II)I"⟩, 53) := ⟨⟨by decide +kernel, by decide +kernel⟩, List.mem_of_getElem? (i := 975) (by decide +kernel), List.mem_of_getElem? (i := 1382) (by decide +kernel), List.mem_of_getElem? (i := 1383) (by decide +kernel)⟩
def lw_privs_5 : List (MethodName × Nat) := [(⟨"TraceJudgeModel", "stepPut", "()V"⟩, 53), (⟨"TraceJudgeModel", "replaced", "(III)I"⟩, 53), (⟨"TraceJudgeModel", "stepRetype", "()V"⟩, 53), (⟨"TraceJudgeModel", "variableOf", "(I)I"⟩, 53), (⟨"TraceJudgeModel", "retyped", "(I)I"⟩, 53), (⟨"TraceJudgeModel", "exchanged", "(I)I"⟩, 53), (⟨"TraceJudgeModel", "stepType", "(I)V"⟩, 53), (⟨"TraceJudgeModel", "free", "(II)I"⟩, 53), (⟨"TraceJudgeModel", "stepAxiom", "(I)V"⟩, 53), (⟨"TraceJudgeModel", "extensionality", "()I"⟩, 53), (⟨"TraceJudgeModel", "chosen", "()I"⟩, 53), (⟨"TraceJudgeModel", "choiceOf", "(I)I"⟩, 53), (⟨"TraceJudgeModel", "implies", "(II)I"⟩, 53), (⟨"TraceJudgeModel", "and", "(II)I"⟩, 53), (⟨"TraceJudgeModel", "truth", "()I"⟩, 53), (⟨"TraceJudgeModel", "named", "(II)I"⟩, 53)]
theorem lw_r5 : ∀ q ∈ lw_privs_5, lw_okq q := List.forall_mem_cons.mpr ⟨lw_p64, List.forall_mem_cons.mpr ⟨lw_p65, List.forall_mem_cons.mpr ⟨lw_p66, List.forall_mem_cons.mpr ⟨lw_p67, List.forall_mem_cons.mpr ⟨lw_p68, List.forall_mem_cons.mpr ⟨lw_p69, List.forall_mem_cons.mpr ⟨lw_p70, List.forall_mem_cons.mpr ⟨lw_p71, List.forall_mem_cons.mpr ⟨lw_p72, List.forall_mem_cons.mpr ⟨lw_p73, List.forall_mem_cons.mpr ⟨lw_p74, List.forall_mem_cons.mpr ⟨lw_p75, List.forall_mem_cons.mpr ⟨lw_p76, List.forall_mem_cons.mpr ⟨lw_p77, List.forall_mem_cons.mpr ⟨lw_p78, List.forall_mem_cons.mpr ⟨lw_p79, fun _ h => absurd h List.not_mem_nil⟩⟩⟩⟩⟩⟩⟩⟩⟩⟩⟩⟩⟩⟩⟩⟩
theorem lw_p80 : lw_okq (⟨"TraceJudgeModel", "infinite", "()I"⟩, 53) := ⟨⟨by decide +kernel, by decide +kernel⟩, List.mem_of_getElem? (i := 975) (by decide +kernel), List.mem_of_getElem? (i := 1386) (by decide +kernel), List.mem_of_getElem? (i := 1387) (by decide +kernel)⟩
theorem lw_p81 : lw_okq (⟨"TraceJudgeModel", "all", "(II)I"⟩, 53) := ⟨⟨by decide +kernel, by decide +kernel⟩, List.mem_of_getElem? (i := 975) (by decide +kernel), List.mem_of_getElem? (i := 1390) (by decide +kernel), List.mem_of_getElem? (i := 1391) (by decide +kernel)⟩
theorem lw_p82 : lw_okq (⟨"TraceJudgeModel", "not", "(I)I"⟩, 53) := ⟨⟨by decide +kernel, by decide +kernel⟩, List.mem_of_getElem? (i := 975) (by decide +kernel), List.mem_of_getElem? (i := 1394) (by decide +kernel), List.mem_of_getElem? (i := 1395) (by decide +kernel)⟩
theorem lw_p83 : lw_okq (⟨"TraceJudgeModel", "some", "(II)I"⟩, 53) := ⟨⟨by decide +kernel, by decide +kernel⟩, List.mem_of_getElem? (i := 975) (by decide +kernel), List.mem_of_getElem? (i := 1398) (by decide +kernel), List.mem_of_getElem? (i := 1399) (by decide +kernel)⟩
theorem lw_p84 : lw_okq (⟨"TraceJudgeModel", "cutNodes", "(I)V"⟩, 53) := ⟨⟨by decide +kernel, by decide +kernel⟩, List.mem_of_getElem? (i := 975) (by decide +kernel), List.mem_of_getElem? (i := 1402) (by decide +kernel), List.mem_of_getElem? (i := 1403) (by decide +kernel)⟩
theorem lw_p85 : lw_okq (⟨"TraceJudgeModel", "cutTypes", "(I)V"⟩, 53) := ⟨⟨by decide +kernel, by decide +kernel⟩, List.mem_of_getElem? (i := 975) (by decide +kernel), List.mem_of_getElem? (i := 1406) (by decide +kernel), List.mem_of_getElem? (i := 1407) (by decide +kernel)⟩
theorem lw_p86 : lw_okq (⟨"TraceJudgeModel", "look", "(III)I"⟩, 53) := ⟨⟨by decide +kernel, by decide +kernel⟩, List.mem_of_getElem? (i := 975) (by decide +kernel), List.mem_of_getElem? (i := 1426) (by decide +kernel), List.mem_of_getElem? (i := 1427) (by decide +kernel)⟩
theorem lw_p87 : lw_okq (⟨"TraceJudgeModel", "partAt", "(II)I"⟩, 53) := ⟨⟨by decide +kernel, by decide +kernel⟩, List.mem_of_getElem? (i := 975) (by decide +kernel), List.mem_of_getElem? (i := 1430) (by decide +kernel), List.mem_of_getElem? (i := 1431) (by decide +kernel)⟩
theorem lw_p88 : lw_okq (⟨"TraceJudgeModel", "canCut", "(I)Z"⟩, 53) := ⟨⟨by decide +kernel, by decide +kernel⟩, List.mem_of_getElem? (i := 975) (by decide +kernel), List.mem_of_getElem? (i := 1442) (by decide +kernel), List.mem_of_getElem? (i := 1443) (by decide +kernel)⟩
theorem lw_p89 : lw_okq (⟨"TraceJudgeModel", "cutTo", "(I)V"⟩, 53) := ⟨⟨by decide +kernel, by decide +kernel⟩, List.mem_of_getElem? (i := 975) (by decide +kernel), List.mem_of_getElem? (i := 1446) (by decide +kernel), List.mem_of_getElem? (i := 1447) (by decide +kernel)⟩
theorem lw_p90 : lw_okq (⟨"TraceJudgeModel", "mark", "(III)V"⟩, 53) := ⟨⟨by decide +kernel, by decide +kernel⟩, List.mem_of_getElem? (i := 975) (by decide +kernel), List.mem_of_getElem? (i := 1454) (by decide +kernel), List.mem_of_getElem? (i := 1455) (by decide +kernel)⟩
def lw_privs_6 : List (MethodName × Nat) := [(⟨"TraceJudgeModel", "infinite", "()I"⟩, 53), (⟨"TraceJudgeModel", "all", "(II)I"⟩, 53), (⟨"TraceJudgeModel", "not", "(I)I"⟩, 53), (⟨"TraceJudgeModel", "some", "(II)I"⟩, 53), (⟨"TraceJudgeModel", "cutNodes", "(I)V"⟩, 53), (⟨"TraceJudgeModel", "cutTypes", "(I)V"⟩, 53), (⟨"TraceJudgeModel", "look", "(III)I"⟩, 53), (⟨"TraceJudgeModel", "partAt", "(II)I"⟩, 53), (⟨"TraceJudgeModel", "canCut", "(I)Z"⟩, 53), (⟨"TraceJudgeModel", "cutTo", "(I)V"⟩, 53), (⟨"TraceJudgeModel", "mark", "(III)V"⟩, 53)]
theorem lw_r6 : ∀ q ∈ lw_privs_6, lw_okq q := List.forall_mem_cons.mpr ⟨lw_p80, List.forall_mem_cons.mpr ⟨lw_p81, List.forall_mem_cons.mpr ⟨lw_p82, List.forall_mem_cons.mpr ⟨lw_p83, List.forall_mem_cons.mpr ⟨lw_p84, List.forall_mem_cons.mpr ⟨lw_p85, List.forall_mem_cons.mpr ⟨lw_p86, List.forall_mem_cons.mpr ⟨lw_p87, List.forall_mem_cons.mpr ⟨lw_p88, List.forall_mem_cons.mpr ⟨lw_p89, List.forall_mem_cons.mpr ⟨lw_p90, fun _ h => absurd h List.not_mem_nil⟩⟩⟩⟩⟩⟩⟩⟩⟩⟩⟩
def lw_privs : List (MethodName × Nat) := lw_privs_1 ++ (lw_privs_2 ++ (lw_privs_3 ++ (lw_privs_4 ++ (lw_privs_5 ++ (lw_privs_6)))))
def lw_tbl : List Cond := k2_sels lw_privs ++ tables_1
theorem lw_privs_ok : ∀ q ∈ lw_privs, lw_okq q := by
  show ∀ q ∈ lw_privs_1 ++ (lw_privs_2 ++ (lw_privs_3 ++ (lw_privs_4 ++ (lw_privs_5 ++ (lw_privs_6))))), lw_okq q
  exact List.forall_mem_append.mpr ⟨lw_r1, List.forall_mem_append.mpr ⟨lw_r2, List.forall_mem_append.mpr ⟨lw_r3, List.forall_mem_append.mpr ⟨lw_r4, List.forall_mem_append.mpr ⟨lw_r5, lw_r6⟩⟩⟩⟩⟩
end
section
/-! names, by program out of the printed names of the task -/
def RX0 : String := "TraceJudge$Axioms"
def TX0 : u_T := fun k => match k with
  | 0 => ("TraceJudge$Axioms", "types", "LTraceJudge$Types;", true)
  | 1 => ("TraceJudge$Axioms", "rows", "LTraceJudge$Rows;", true)
  | 2 => ("TraceJudge$Axioms", "formula", "[I", false)
  | 3 => ("TraceJudge$Axioms", "typeOf", "[I", true)
  | _ => ("TraceJudge$Axioms", "boundAt", "[I", true)
def tyX0 : Nat → FieldType := fun k => match k with
  | 0 => .object "TraceJudge$Types"
  | 1 => .object "TraceJudge$Rows"
  | 2 => .array .int
  | 3 => .array .int
  | _ => .array .int
abbrev wsX00 : List Cond := u_ws RX0 TX0 5
theorem nmX0 : ∀ a, a < 5 → ∀ b, b < 5 → a ≠ b → (TX0 a).2.1 ≠ (TX0 b).2.1 := by decide +kernel
theorem tyX0_ok : ∀ k, k < 5 → parseFieldDescriptor (TX0 k).2.2.1 = some (tyX0 k) := by decide +kernel
abbrev cX0_init : ByteArray := prog_2_method_1_code
def yX0_init : MethodName := ⟨RX0, "<init>", "(LTraceJudge$Types;LTraceJudge$Rows;)V"⟩
abbrev cX0_choose : ByteArray := prog_2_method_2_code
def yX0_choose : MethodName := ⟨RX0, "choose", "(I)Z"⟩
abbrev cX0_write : ByteArray := prog_2_method_3_code
def yX0_write : MethodName := ⟨RX0, "write", "(II)V"⟩
abbrev cX0_writeName : ByteArray := prog_2_method_4_code
def yX0_writeName : MethodName := ⟨RX0, "writeName", "(II)V"⟩
abbrev cX0_writeBinding : ByteArray := prog_2_method_5_code
def yX0_writeBinding : MethodName := ⟨RX0, "writeBinding", "(III)V"⟩
abbrev cX0_writeAll : ByteArray := prog_2_method_6_code
def yX0_writeAll : MethodName := ⟨RX0, "writeAll", "(III)V"⟩
abbrev cX0_writeExists : ByteArray := prog_2_method_7_code
def yX0_writeExists : MethodName := ⟨RX0, "writeExists", "(III)V"⟩
abbrev cX0_writeAnd : ByteArray := prog_2_method_8_code
def yX0_writeAnd : MethodName := ⟨RX0, "writeAnd", "(III)V"⟩
abbrev cX0_typeAt : ByteArray := prog_2_method_9_code
def yX0_typeAt : MethodName := ⟨RX0, "typeAt", "(I)I"⟩
abbrev cX0_endOf : ByteArray := prog_2_method_10_code
def yX0_endOf : MethodName := ⟨RX0, "endOf", "(I)I"⟩
def RX1 : String := "TraceJudge$Entries"
def TX1 : u_T := fun k => match k with
  | 0 => ("TraceJudge$Entries", "types", "LTraceJudge$Types;", true)
  | 1 => ("TraceJudge$Entries", "signature", "LTraceJudge$Signature;", true)
  | 2 => ("TraceJudge$Entries", "typeAt", "[I", false)
  | 3 => ("TraceJudge$Entries", "typeCount", "I", false)
  | 4 => ("TraceJudge$Entries", "code", "[I", false)
  | 5 => ("TraceJudge$Entries", "type", "[I", false)
  | 6 => ("TraceJudge$Entries", "left", "[I", false)
  | 7 => ("TraceJudge$Entries", "right", "[I", false)
  | 8 => ("TraceJudge$Entries", "symbols", "[I", false)
  | 9 => ("TraceJudge$Entries", "height", "[I", false)
  | 10 => ("TraceJudge$Entries", "loose", "[I", false)
  | 11 => ("TraceJudge$Entries", "termCount", "I", false)
  | 12 => ("TraceJudge$Entries", "path", "[I", true)
  | _ => ("TraceJudge$Entries", "binders", "[I", true)
def tyX1 : Nat → FieldType := fun k => match k with
  | 0 => .object "TraceJudge$Types"
  | 1 => .object "TraceJudge$Signature"
  | 2 => .array .int
  | 3 => .int
  | 4 => .array .int
  | 5 => .array .int
  | 6 => .array .int
  | 7 => .array .int
  | 8 => .array .int
  | 9 => .array .int
  | 10 => .array .int
  | 11 => .int
  | 12 => .array .int
  | _ => .array .int
abbrev wsX10 : List Cond := u_ws RX1 TX1 14
theorem nmX1 : ∀ a, a < 14 → ∀ b, b < 14 → a ≠ b → (TX1 a).2.1 ≠ (TX1 b).2.1 := by decide +kernel
theorem tyX1_ok : ∀ k, k < 14 → parseFieldDescriptor (TX1 k).2.2.1 = some (tyX1 k) := by decide +kernel
abbrev cX1_init : ByteArray := prog_3_method_1_code
def yX1_init : MethodName := ⟨RX1, "<init>", "(LTraceJudge$Types;LTraceJudge$Signature;)V"⟩
abbrev cX1_shorten : ByteArray := prog_3_method_2_code
def yX1_shorten : MethodName := ⟨RX1, "shorten", "(II)V"⟩
abbrev cX1_hasType : ByteArray := prog_3_method_3_code
def yX1_hasType : MethodName := ⟨RX1, "hasType", "(I)Z"⟩
abbrev cX1_hasTerm : ByteArray := prog_3_method_4_code
def yX1_hasTerm : MethodName := ⟨RX1, "hasTerm", "(I)Z"⟩
abbrev cX1_isClosed : ByteArray := prog_3_method_5_code
def yX1_isClosed : MethodName := ⟨RX1, "isClosed", "(I)Z"⟩
abbrev cX1_isFree : ByteArray := prog_3_method_6_code
def yX1_isFree : MethodName := ⟨RX1, "isFree", "(I)Z"⟩
abbrev cX1_typeVariable : ByteArray := prog_3_method_7_code
def yX1_typeVariable : MethodName := ⟨RX1, "typeVariable", "(I)Z"⟩
abbrev cX1_typeOf : ByteArray := prog_3_method_8_code
def yX1_typeOf : MethodName := ⟨RX1, "typeOf", "(III)Z"⟩
abbrev cX1_freeVariable : ByteArray := prog_3_method_9_code
def yX1_freeVariable : MethodName := ⟨RX1, "freeVariable", "(II)Z"⟩
abbrev cX1_constant : ByteArray := prog_3_method_10_code
def yX1_constant : MethodName := ⟨RX1, "constant", "(II)Z"⟩
abbrev cX1_application : ByteArray := prog_3_method_11_code
def yX1_application : MethodName := ⟨RX1, "application", "(II)Z"⟩
abbrev cX1_abstraction : ByteArray := prog_3_method_12_code
def yX1_abstraction : MethodName := ⟨RX1, "abstraction", "(II)Z"⟩
abbrev cX1_boundVariable : ByteArray := prog_3_method_13_code
def yX1_boundVariable : MethodName := ⟨RX1, "boundVariable", "(II)Z"⟩
abbrev cX1_addType : ByteArray := prog_3_method_14_code
def yX1_addType : MethodName := ⟨RX1, "addType", "(I)Z"⟩
abbrev cX1_addTerm : ByteArray := prog_3_method_15_code
def yX1_addTerm : MethodName := ⟨RX1, "addTerm", "(IIII)Z"⟩
abbrev cX1_growTerms : ByteArray := prog_3_method_16_code
def yX1_growTerms : MethodName := ⟨RX1, "growTerms", "()V"⟩
abbrev cX1_looseOf : ByteArray := prog_3_method_17_code
def yX1_looseOf : MethodName := ⟨RX1, "looseOf", "(III)I"⟩
abbrev cX1_bindsType : ByteArray := prog_3_method_18_code
def yX1_bindsType : MethodName := ⟨RX1, "bindsType", "(II)Z"⟩
abbrev cX1_writeTo : ByteArray := prog_3_method_19_code
def yX1_writeTo : MethodName := ⟨RX1, "writeTo", "(LTraceJudge$Rows;I)V"⟩
def RX2 : String := "TraceJudge$Equation"
def TX2 : u_T := fun k => match k with
  | 0 => ("TraceJudge$Equation", "left", "I", true)
  | 1 => ("TraceJudge$Equation", "right", "I", true)
  | 2 => ("TraceJudge$Equation", "end", "I", true)
  | _ => ("TraceJudge$Equation", "type", "I", true)
def tyX2 : Nat → FieldType := fun k => match k with
  | 0 => .int
  | 1 => .int
  | 2 => .int
  | _ => .int
abbrev wsX20 : List Cond := u_ws RX2 TX2 4
theorem nmX2 : ∀ a, a < 4 → ∀ b, b < 4 → a ≠ b → (TX2 a).2.1 ≠ (TX2 b).2.1 := by decide +kernel
theorem tyX2_ok : ∀ k, k < 4 → parseFieldDescriptor (TX2 k).2.2.1 = some (tyX2 k) := by decide +kernel
abbrev cX2_init : ByteArray := prog_4_method_1_code
def yX2_init : MethodName := ⟨RX2, "<init>", "(IIII)V"⟩
def RX3 : String := "TraceJudge$Rows"
def TX3 : u_T := fun k => match k with
  | 0 => ("TraceJudge$Rows", "types", "LTraceJudge$Types;", true)
  | 1 => ("TraceJudge$Rows", "code", "[I", false)
  | 2 => ("TraceJudge$Rows", "type", "[I", false)
  | 3 => ("TraceJudge$Rows", "top", "I", false)
  | 4 => ("TraceJudge$Rows", "start", "[I", false)
  | 5 => ("TraceJudge$Rows", "count", "I", false)
  | 6 => ("TraceJudge$Rows", "bad", "Z", false)
  | _ => ("TraceJudge$Rows", "path", "[I", true)
def tyX3 : Nat → FieldType := fun k => match k with
  | 0 => .object "TraceJudge$Types"
  | 1 => .array .int
  | 2 => .array .int
  | 3 => .int
  | 4 => .array .int
  | 5 => .int
  | 6 => .boolean
  | _ => .array .int
abbrev wsX30 : List Cond := u_ws RX3 TX3 8
theorem nmX3 : ∀ a, a < 8 → ∀ b, b < 8 → a ≠ b → (TX3 a).2.1 ≠ (TX3 b).2.1 := by decide +kernel
theorem tyX3_ok : ∀ k, k < 8 → parseFieldDescriptor (TX3 k).2.2.1 = some (tyX3 k) := by decide +kernel
abbrev cX3_init : ByteArray := prog_5_method_1_code
def yX3_init : MethodName := ⟨RX3, "<init>", "(LTraceJudge$Types;)V"⟩
abbrev cX3_shorten : ByteArray := prog_5_method_2_code
def yX3_shorten : MethodName := ⟨RX3, "shorten", "(I)V"⟩
abbrev cX3_write : ByteArray := prog_5_method_3_code
def yX3_write : MethodName := ⟨RX3, "write", "(II)V"⟩
abbrev cX3_writeEquals : ByteArray := prog_5_method_4_code
def yX3_writeEquals : MethodName := ⟨RX3, "writeEquals", "(I)V"⟩
abbrev cX3_writeApplied : ByteArray := prog_5_method_5_code
def yX3_writeApplied : MethodName := ⟨RX3, "writeApplied", "(II)V"⟩
abbrev cX3_copy : ByteArray := prog_5_method_6_code
def yX3_copy : MethodName := ⟨RX3, "copy", "(II)V"⟩
abbrev cX3_copyRetyped : ByteArray := prog_5_method_7_code
def yX3_copyRetyped : MethodName := ⟨RX3, "copyRetyped", "(II)V"⟩
abbrev cX3_copyTrading : ByteArray := prog_5_method_8_code
def yX3_copyTrading : MethodName := ⟨RX3, "copyTrading", "(IIZII)V"⟩
abbrev cX3_drop : ByteArray := prog_5_method_9_code
def yX3_drop : MethodName := ⟨RX3, "drop", "()V"⟩
abbrev cX3_close : ByteArray := prog_5_method_10_code
def yX3_close : MethodName := ⟨RX3, "close", "()V"⟩
abbrev cX3_isLow : ByteArray := prog_5_method_11_code
def yX3_isLow : MethodName := ⟨RX3, "isLow", "(II)Z"⟩
abbrev cX3_same : ByteArray := prog_5_method_12_code
def yX3_same : MethodName := ⟨RX3, "same", "(IIII)Z"⟩
abbrev cX3_sameRows : ByteArray := prog_5_method_13_code
def yX3_sameRows : MethodName := ⟨RX3, "sameRows", "(II)Z"⟩
abbrev cX3_endOf : ByteArray := prog_5_method_14_code
def yX3_endOf : MethodName := ⟨RX3, "endOf", "(I)I"⟩
abbrev cX3_equationAt : ByteArray := prog_5_method_15_code
def yX3_equationAt : MethodName := ⟨RX3, "equationAt", "(I)LTraceJudge$Equation;"⟩
abbrev cX3_hasSymbol : ByteArray := prog_5_method_16_code
def yX3_hasSymbol : MethodName := ⟨RX3, "hasSymbol", "(IIII)Z"⟩
abbrev cX3_hasFree : ByteArray := prog_5_method_17_code
def yX3_hasFree : MethodName := ⟨RX3, "hasFree", "(II)Z"⟩
abbrev cX3_markTypes : ByteArray := prog_5_method_18_code
def yX3_markTypes : MethodName := ⟨RX3, "markTypes", "(II)V"⟩
def RX4 : String := "TraceJudge$Sequents"
def TX4 : u_T := fun k => match k with
  | 0 => ("TraceJudge$Sequents", "types", "LTraceJudge$Types;", true)
  | 1 => ("TraceJudge$Sequents", "entries", "LTraceJudge$Entries;", true)
  | 2 => ("TraceJudge$Sequents", "rows", "LTraceJudge$Rows;", true)
  | 3 => ("TraceJudge$Sequents", "count", "I", false)
  | 4 => ("TraceJudge$Sequents", "firm", "I", false)
  | 5 => ("TraceJudge$Sequents", "first", "[I", false)
  | 6 => ("TraceJudge$Sequents", "typesThen", "[I", false)
  | 7 => ("TraceJudge$Sequents", "entryTypesThen", "[I", false)
  | _ => ("TraceJudge$Sequents", "entryTermsThen", "[I", false)
def tyX4 : Nat → FieldType := fun k => match k with
  | 0 => .object "TraceJudge$Types"
  | 1 => .object "TraceJudge$Entries"
  | 2 => .object "TraceJudge$Rows"
  | 3 => .int
  | 4 => .int
  | 5 => .array .int
  | 6 => .array .int
  | 7 => .array .int
  | _ => .array .int
abbrev wsX40 : List Cond := u_ws RX4 TX4 9
theorem nmX4 : ∀ a, a < 9 → ∀ b, b < 9 → a ≠ b → (TX4 a).2.1 ≠ (TX4 b).2.1 := by decide +kernel
theorem tyX4_ok : ∀ k, k < 9 → parseFieldDescriptor (TX4 k).2.2.1 = some (tyX4 k) := by decide +kernel
abbrev cX4_init : ByteArray := prog_6_method_1_code
def yX4_init : MethodName := ⟨RX4, "<init>", "(LTraceJudge$Types;LTraceJudge$Entries;LTraceJudge$Rows;)V"⟩
abbrev cX4_has : ByteArray := prog_6_method_2_code
def yX4_has : MethodName := ⟨RX4, "has", "(I)Z"⟩
abbrev cX4_conclusionOf : ByteArray := prog_6_method_3_code
def yX4_conclusionOf : MethodName := ⟨RX4, "conclusionOf", "(I)I"⟩
abbrev cX4_hypothesesOf : ByteArray := prog_6_method_4_code
def yX4_hypothesesOf : MethodName := ⟨RX4, "hypothesesOf", "(I)I"⟩
abbrev cX4_placeOf : ByteArray := prog_6_method_5_code
def yX4_placeOf : MethodName := ⟨RX4, "placeOf", "(III)I"⟩
abbrev cX4_canEndAt : ByteArray := prog_6_method_6_code
def yX4_canEndAt : MethodName := ⟨RX4, "canEndAt", "(I)Z"⟩
abbrev cX4_shorten : ByteArray := prog_6_method_7_code
def yX4_shorten : MethodName := ⟨RX4, "shorten", "(I)V"⟩
abbrev cX4_join : ByteArray := prog_6_method_8_code
def yX4_join : MethodName := ⟨RX4, "join", "(II)V"⟩
abbrev cX4_addHypothesis : ByteArray := prog_6_method_9_code
def yX4_addHypothesis : MethodName := ⟨RX4, "addHypothesis", "()V"⟩
abbrev cX4_add : ByteArray := prog_6_method_10_code
def yX4_add : MethodName := ⟨RX4, "add", "()Z"⟩
abbrev cX4_addFirm : ByteArray := prog_6_method_11_code
def yX4_addFirm : MethodName := ⟨RX4, "addFirm", "()Z"⟩
def RX5 : String := "TraceJudge$Signature"
def TX5 : u_T := fun k => match k with
  | 0 => ("TraceJudge$Signature", "takes", "[I", true)
  | 1 => ("TraceJudge$Signature", "own", "[I", true)
  | 2 => ("TraceJudge$Signature", "constructors", "I", false)
  | 3 => ("TraceJudge$Signature", "constants", "I", false)
  | 4 => ("TraceJudge$Signature", "constructorsBefore", "I", false)
  | _ => ("TraceJudge$Signature", "constantsBefore", "I", false)
def tyX5 : Nat → FieldType := fun k => match k with
  | 0 => .array .int
  | 1 => .array .int
  | 2 => .int
  | 3 => .int
  | 4 => .int
  | _ => .int
abbrev wsX50 : List Cond := u_ws RX5 TX5 6
theorem nmX5 : ∀ a, a < 6 → ∀ b, b < 6 → a ≠ b → (TX5 a).2.1 ≠ (TX5 b).2.1 := by decide +kernel
theorem tyX5_ok : ∀ k, k < 6 → parseFieldDescriptor (TX5 k).2.2.1 = some (tyX5 k) := by decide +kernel
abbrev cX5_init : ByteArray := prog_7_method_1_code
def yX5_init : MethodName := ⟨RX5, "<init>", "(LTraceJudge$Types;)V"⟩
abbrev cX5_hasConstructor : ByteArray := prog_7_method_2_code
def yX5_hasConstructor : MethodName := ⟨RX5, "hasConstructor", "(I)Z"⟩
abbrev cX5_hasConstant : ByteArray := prog_7_method_3_code
def yX5_hasConstant : MethodName := ⟨RX5, "hasConstant", "(I)Z"⟩
abbrev cX5_addConstructor : ByteArray := prog_7_method_4_code
def yX5_addConstructor : MethodName := ⟨RX5, "addConstructor", "(I)I"⟩
abbrev cX5_addConstant : ByteArray := prog_7_method_5_code
def yX5_addConstant : MethodName := ⟨RX5, "addConstant", "(I)I"⟩
abbrev cX5_remember : ByteArray := prog_7_method_6_code
def yX5_remember : MethodName := ⟨RX5, "remember", "()V"⟩
abbrev cX5_undo : ByteArray := prog_7_method_7_code
def yX5_undo : MethodName := ⟨RX5, "undo", "()V"⟩
def RX6 : String := "TraceJudge$Steps"
def TX6 : u_T := fun k => match k with
  | 0 => ("TraceJudge$Steps", "types", "LTraceJudge$Types;", true)
  | 1 => ("TraceJudge$Steps", "signature", "LTraceJudge$Signature;", true)
  | 2 => ("TraceJudge$Steps", "entries", "LTraceJudge$Entries;", true)
  | 3 => ("TraceJudge$Steps", "rows", "LTraceJudge$Rows;", true)
  | _ => ("TraceJudge$Steps", "sequents", "LTraceJudge$Sequents;", true)
def tyX6 : Nat → FieldType := fun k => match k with
  | 0 => .object "TraceJudge$Types"
  | 1 => .object "TraceJudge$Signature"
  | 2 => .object "TraceJudge$Entries"
  | 3 => .object "TraceJudge$Rows"
  | _ => .object "TraceJudge$Sequents"
abbrev wsX60 : List Cond := u_ws RX6 TX6 5
theorem nmX6 : ∀ a, a < 5 → ∀ b, b < 5 → a ≠ b → (TX6 a).2.1 ≠ (TX6 b).2.1 := by decide +kernel
theorem tyX6_ok : ∀ k, k < 5 → parseFieldDescriptor (TX6 k).2.2.1 = some (tyX6 k) := by decide +kernel
abbrev cX6_init : ByteArray := prog_8_method_1_code
def yX6_init : MethodName := ⟨RX6, "<init>", "(LTraceJudge$Types;LTraceJudge$Signature;LTraceJudge$Entries;LTraceJudge$Rows;LTraceJudge$Sequents;)V"⟩
abbrev cX6_reflexive : ByteArray := prog_8_method_2_code
def yX6_reflexive : MethodName := ⟨RX6, "reflexive", "(I)Z"⟩
abbrev cX6_transitive : ByteArray := prog_8_method_3_code
def yX6_transitive : MethodName := ⟨RX6, "transitive", "(II)Z"⟩
abbrev cX6_congruent : ByteArray := prog_8_method_4_code
def yX6_congruent : MethodName := ⟨RX6, "congruent", "(II)Z"⟩
abbrev cX6_abstracted : ByteArray := prog_8_method_5_code
def yX6_abstracted : MethodName := ⟨RX6, "abstracted", "(II)Z"⟩
abbrev cX6_reduced : ByteArray := prog_8_method_6_code
def yX6_reduced : MethodName := ⟨RX6, "reduced", "(I)Z"⟩
abbrev cX6_assumed : ByteArray := prog_8_method_7_code
def yX6_assumed : MethodName := ⟨RX6, "assumed", "(I)Z"⟩
abbrev cX6_replaced : ByteArray := prog_8_method_8_code
def yX6_replaced : MethodName := ⟨RX6, "replaced", "(II)Z"⟩
abbrev cX6_equivalent : ByteArray := prog_8_method_9_code
def yX6_equivalent : MethodName := ⟨RX6, "equivalent", "(II)Z"⟩
abbrev cX6_termPutIn : ByteArray := prog_8_method_10_code
def yX6_termPutIn : MethodName := ⟨RX6, "termPutIn", "(III)Z"⟩
abbrev cX6_copyWith : ByteArray := prog_8_method_11_code
def yX6_copyWith : MethodName := ⟨RX6, "copyWith", "(III)V"⟩
abbrev cX6_typesPutIn : ByteArray := prog_8_method_12_code
def yX6_typesPutIn : MethodName := ⟨RX6, "typesPutIn", "(I[III)Z"⟩
abbrev cX6_isAmongPairs : ByteArray := prog_8_method_13_code
def yX6_isAmongPairs : MethodName := ⟨RX6, "isAmongPairs", "([IIII)Z"⟩
abbrev cX6_newConstant : ByteArray := prog_8_method_14_code
def yX6_newConstant : MethodName := ⟨RX6, "newConstant", "(I)Z"⟩
abbrev cX6_hasVariablesOf : ByteArray := prog_8_method_15_code
def yX6_hasVariablesOf : MethodName := ⟨RX6, "hasVariablesOf", "(III)Z"⟩
abbrev cX6_newConstructor : ByteArray := prog_8_method_16_code
def yX6_newConstructor : MethodName := ⟨RX6, "newConstructor", "(I)Z"⟩
abbrev cX6_newType : ByteArray := prog_8_method_17_code
def yX6_newType : MethodName := ⟨RX6, "newType", "(II)I"⟩
abbrev cX6_equationOf : ByteArray := prog_8_method_18_code
def yX6_equationOf : MethodName := ⟨RX6, "equationOf", "(I)LTraceJudge$Equation;"⟩
def RX7 : String := "TraceJudge$Types"
def TX7 : u_T := fun k => match k with
  | 0 => ("TraceJudge$Types", "code", "[I", false)
  | 1 => ("TraceJudge$Types", "left", "[I", false)
  | 2 => ("TraceJudge$Types", "right", "[I", false)
  | 3 => ("TraceJudge$Types", "symbols", "[I", false)
  | 4 => ("TraceJudge$Types", "height", "[I", false)
  | 5 => ("TraceJudge$Types", "next", "[I", false)
  | 6 => ("TraceJudge$Types", "image", "[I", false)
  | 7 => ("TraceJudge$Types", "heads", "[I", true)
  | _ => ("TraceJudge$Types", "count", "I", false)
def tyX7 : Nat → FieldType := fun k => match k with
  | 0 => .array .int
  | 1 => .array .int
  | 2 => .array .int
  | 3 => .array .int
  | 4 => .array .int
  | 5 => .array .int
  | 6 => .array .int
  | 7 => .array .int
  | _ => .int
abbrev wsX70 : List Cond := u_ws RX7 TX7 9
theorem nmX7 : ∀ a, a < 9 → ∀ b, b < 9 → a ≠ b → (TX7 a).2.1 ≠ (TX7 b).2.1 := by decide +kernel
theorem tyX7_ok : ∀ k, k < 9 → parseFieldDescriptor (TX7 k).2.2.1 = some (tyX7 k) := by decide +kernel
abbrev cX7_init : ByteArray := prog_9_method_1_code
def yX7_init : MethodName := ⟨RX7, "<init>", "()V"⟩
abbrev cX7_make : ByteArray := prog_9_method_2_code
def yX7_make : MethodName := ⟨RX7, "make", "(III)I"⟩
abbrev cX7_find : ByteArray := prog_9_method_3_code
def yX7_find : MethodName := ⟨RX7, "find", "(IIII)I"⟩
abbrev cX7_append : ByteArray := prog_9_method_4_code
def yX7_append : MethodName := ⟨RX7, "append", "(IIII)I"⟩
abbrev cX7_bucketOf : ByteArray := prog_9_method_5_code
def yX7_bucketOf : MethodName := ⟨RX7, "bucketOf", "(III)I"⟩
abbrev cX7_shorten : ByteArray := prog_9_method_6_code
def yX7_shorten : MethodName := ⟨RX7, "shorten", "(I)V"⟩
abbrev cX7_isFunction : ByteArray := prog_9_method_7_code
def yX7_isFunction : MethodName := ⟨RX7, "isFunction", "(I)Z"⟩
abbrev cX7_answerOf : ByteArray := prog_9_method_8_code
def yX7_answerOf : MethodName := ⟨RX7, "answerOf", "(I)I"⟩
abbrev cX7_codeAt : ByteArray := prog_9_method_9_code
def yX7_codeAt : MethodName := ⟨RX7, "codeAt", "(II)I"⟩
abbrev cX7_unmark : ByteArray := prog_9_method_10_code
def yX7_unmark : MethodName := ⟨RX7, "unmark", "()V"⟩
abbrev cX7_mark : ByteArray := prog_9_method_11_code
def yX7_mark : MethodName := ⟨RX7, "mark", "(I)V"⟩
abbrev cX7_spreadMarks : ByteArray := prog_9_method_12_code
def yX7_spreadMarks : MethodName := ⟨RX7, "spreadMarks", "()V"⟩
abbrev cX7_markedVariables : ByteArray := prog_9_method_13_code
def yX7_markedVariables : MethodName := ⟨RX7, "markedVariables", "()I"⟩
abbrev cX7_lowestMarkedVariable : ByteArray := prog_9_method_14_code
def yX7_lowestMarkedVariable : MethodName := ⟨RX7, "lowestMarkedVariable", "(I)I"⟩
abbrev cX7_putIn : ByteArray := prog_9_method_15_code
def yX7_putIn : MethodName := ⟨RX7, "putIn", "(II)V"⟩
abbrev cX7_makeImages : ByteArray := prog_9_method_16_code
def yX7_makeImages : MethodName := ⟨RX7, "makeImages", "()Z"⟩
abbrev cX7_shortenToMarked : ByteArray := prog_9_method_17_code
def yX7_shortenToMarked : MethodName := ⟨RX7, "shortenToMarked", "(I)V"⟩
abbrev cX7_imageOf : ByteArray := prog_9_method_18_code
def yX7_imageOf : MethodName := ⟨RX7, "imageOf", "(I)I"⟩
abbrev cX7_becomes : ByteArray := prog_9_method_19_code
def yX7_becomes : MethodName := ⟨RX7, "becomes", "(II)Z"⟩
abbrev cX7_matches : ByteArray := prog_9_method_20_code
def yX7_matches : MethodName := ⟨RX7, "matches", "(III)Z"⟩
def RX8 : String := "TraceJudge"
def TX8 : u_T := fun k => match k with
  | 0 => ("TraceJudge", "types", "LTraceJudge$Types;", true)
  | 1 => ("TraceJudge", "signature", "LTraceJudge$Signature;", true)
  | 2 => ("TraceJudge", "entries", "LTraceJudge$Entries;", true)
  | 3 => ("TraceJudge", "rows", "LTraceJudge$Rows;", true)
  | 4 => ("TraceJudge", "sequents", "LTraceJudge$Sequents;", true)
  | 5 => ("TraceJudge", "steps", "LTraceJudge$Steps;", true)
  | 6 => ("TraceJudge", "axioms", "LTraceJudge$Axioms;", true)
  | 7 => ("TraceJudge", "said", "[I", false)
  | 8 => ("TraceJudge", "waiting", "I", false)
  | _ => ("TraceJudge", "faultAt", "I", false)
def tyX8 : Nat → FieldType := fun k => match k with
  | 0 => .object "TraceJudge$Types"
  | 1 => .object "TraceJudge$Signature"
  | 2 => .object "TraceJudge$Entries"
  | 3 => .object "TraceJudge$Rows"
  | 4 => .object "TraceJudge$Sequents"
  | 5 => .object "TraceJudge$Steps"
  | 6 => .object "TraceJudge$Axioms"
  | 7 => .array .int
  | 8 => .int
  | _ => .int
abbrev wsX80 : List Cond := u_ws RX8 TX8 10
theorem nmX8 : ∀ a, a < 10 → ∀ b, b < 10 → a ≠ b → (TX8 a).2.1 ≠ (TX8 b).2.1 := by decide +kernel
theorem tyX8_ok : ∀ k, k < 10 → parseFieldDescriptor (TX8 k).2.2.1 = some (tyX8 k) := by decide +kernel
abbrev cX8_init : ByteArray := prog_1_method_1_code
def yX8_init : MethodName := ⟨RX8, "<init>", "()V"⟩
abbrev cX8_say : ByteArray := prog_1_method_2_code
def yX8_say : MethodName := ⟨RX8, "say", "(I)Z"⟩
abbrev cX8_judge : ByteArray := prog_1_method_3_code
def yX8_judge : MethodName := ⟨RX8, "judge", "()I"⟩
abbrev cX8_fault : ByteArray := prog_1_method_4_code
def yX8_fault : MethodName := ⟨RX8, "fault", "()I"⟩
abbrev cX8_size : ByteArray := prog_1_method_5_code
def yX8_size : MethodName := ⟨RX8, "size", "()I"⟩
abbrev cX8_hypotheses : ByteArray := prog_1_method_6_code
def yX8_hypotheses : MethodName := ⟨RX8, "hypotheses", "(I)I"⟩
abbrev cX8_symbol : ByteArray := prog_1_method_7_code
def yX8_symbol : MethodName := ⟨RX8, "symbol", "(III)I"⟩
abbrev cX8_typeSymbol : ByteArray := prog_1_method_8_code
def yX8_typeSymbol : MethodName := ⟨RX8, "typeSymbol", "(IIII)I"⟩
abbrev cX8_cut : ByteArray := prog_1_method_9_code
def yX8_cut : MethodName := ⟨RX8, "cut", "(I)V"⟩
abbrev cX8_keep : ByteArray := prog_1_method_10_code
def yX8_keep : MethodName := ⟨RX8, "keep", "(II)V"⟩
abbrev cX8_entryLength : ByteArray := prog_1_method_11_code
def yX8_entryLength : MethodName := ⟨RX8, "entryLength", "(I)I"⟩
abbrev cX8_accepts : ByteArray := prog_1_method_12_code
def yX8_accepts : MethodName := ⟨RX8, "accepts", "(I)Z"⟩
abbrev cX8_longer : ByteArray := prog_1_method_13_code
def yX8_longer : MethodName := ⟨RX8, "longer", "([I)[I"⟩
abbrev cX8_partOf : ByteArray := prog_1_method_14_code
def yX8_partOf : MethodName := ⟨RX8, "partOf", "([II)I"⟩
abbrev cX8_isName : ByteArray := prog_1_method_15_code
def yX8_isName : MethodName := ⟨RX8, "isName", "(I)Z"⟩
def RX9 : String := "TraceJudgeModel"
def TX9 : u_T := fun k => match k with
  | 0 => ("TraceJudgeModel", "code", "I", false)
  | 1 => ("TraceJudgeModel", "said", "I", false)
  | 2 => ("TraceJudgeModel", "word", "[I", true)
  | 3 => ("TraceJudgeModel", "fault", "I", false)
  | 4 => ("TraceJudgeModel", "types", "I", false)
  | 5 => ("TraceJudgeModel", "maker", "[I", true)
  | 6 => ("TraceJudgeModel", "left", "[I", true)
  | 7 => ("TraceJudgeModel", "right", "[I", true)
  | 8 => ("TraceJudgeModel", "typeWide", "[I", true)
  | 9 => ("TraceJudgeModel", "typeHigh", "[I", true)
  | 10 => ("TraceJudgeModel", "typeBehind", "[I", true)
  | 11 => ("TraceJudgeModel", "typeChain", "[I", true)
  | 12 => ("TraceJudgeModel", "typeImage", "[I", true)
  | 13 => ("TraceJudgeModel", "constructors", "I", false)
  | 14 => ("TraceJudgeModel", "takes", "[I", true)
  | 15 => ("TraceJudgeModel", "constants", "I", false)
  | 16 => ("TraceJudgeModel", "own", "[I", true)
  | 17 => ("TraceJudgeModel", "nodes", "I", false)
  | 18 => ("TraceJudgeModel", "kind", "[I", true)
  | 19 => ("TraceJudgeModel", "first", "[I", true)
  | 20 => ("TraceJudgeModel", "second", "[I", true)
  | 21 => ("TraceJudgeModel", "type", "[I", true)
  | 22 => ("TraceJudgeModel", "wide", "[I", true)
  | 23 => ("TraceJudgeModel", "high", "[I", true)
  | 24 => ("TraceJudgeModel", "reach", "[I", true)
  | 25 => ("TraceJudgeModel", "behind", "[I", true)
  | 26 => ("TraceJudgeModel", "chain", "[I", true)
  | 27 => ("TraceJudgeModel", "image", "[I", true)
  | 28 => ("TraceJudgeModel", "typeEntries", "I", false)
  | 29 => ("TraceJudgeModel", "termEntries", "I", false)
  | 30 => ("TraceJudgeModel", "typeEntry", "[I", true)
  | 31 => ("TraceJudgeModel", "termEntry", "[I", true)
  | 32 => ("TraceJudgeModel", "sequents", "I", false)
  | 33 => ("TraceJudgeModel", "used", "I", false)
  | 34 => ("TraceJudgeModel", "together", "I", false)
  | 35 => ("TraceJudgeModel", "conclusion", "[I", true)
  | 36 => ("TraceJudgeModel", "begin", "[I", true)
  | 37 => ("TraceJudgeModel", "many", "[I", true)
  | 38 => ("TraceJudgeModel", "step", "[I", true)
  | 39 => ("TraceJudgeModel", "nodesThen", "[I", true)
  | 40 => ("TraceJudgeModel", "typesThen", "[I", true)
  | 41 => ("TraceJudgeModel", "typeEntriesThen", "[I", true)
  | 42 => ("TraceJudgeModel", "termEntriesThen", "[I", true)
  | 43 => ("TraceJudgeModel", "pool", "[I", true)
  | 44 => ("TraceJudgeModel", "typesFirst", "I", false)
  | 45 => ("TraceJudgeModel", "bad", "Z", false)
  | 46 => ("TraceJudgeModel", "found", "I", false)
  | 47 => ("TraceJudgeModel", "variable", "[I", true)
  | 48 => ("TraceJudgeModel", "became", "[I", true)
  | 49 => ("TraceJudgeModel", "at", "I", false)
  | 50 => ("TraceJudgeModel", "numbers", "[I", true)
  | 51 => ("TraceJudgeModel", "noted", "I", false)
  | _ => ("TraceJudgeModel", "note", "[I", true)
def tyX9 : Nat → FieldType := fun k => match k with
  | 0 => .int
  | 1 => .int
  | 2 => .array .int
  | 3 => .int
  | 4 => .int
  | 5 => .array .int
  | 6 => .array .int
  | 7 => .array .int
  | 8 => .array .int
  | 9 => .array .int
  | 10 => .array .int
  | 11 => .array .int
  | 12 => .array .int
  | 13 => .int
  | 14 => .array .int
  | 15 => .int
  | 16 => .array .int
  | 17 => .int
  | 18 => .array .int
  | 19 => .array .int
  | 20 => .array .int
  | 21 => .array .int
  | 22 => .array .int
  | 23 => .array .int
  | 24 => .array .int
  | 25 => .array .int
  | 26 => .array .int
  | 27 => .array .int
  | 28 => .int
  | 29 => .int
  | 30 => .array .int
  | 31 => .array .int
  | 32 => .int
  | 33 => .int
  | 34 => .int
  | 35 => .array .int
  | 36 => .array .int
  | 37 => .array .int
  | 38 => .array .int
  | 39 => .array .int
  | 40 => .array .int
  | 41 => .array .int
  | 42 => .array .int
  | 43 => .array .int
  | 44 => .int
  | 45 => .boolean
  | 46 => .int
  | 47 => .array .int
  | 48 => .array .int
  | 49 => .int
  | 50 => .array .int
  | 51 => .int
  | _ => .array .int
abbrev wsX90 : List Cond := u_ws RX9 TX9 53
theorem nmX9 : ∀ a, a < 53 → ∀ b, b < 53 → a ≠ b → (TX9 a).2.1 ≠ (TX9 b).2.1 := by decide +kernel
theorem tyX9_ok : ∀ k, k < 53 → parseFieldDescriptor (TX9 k).2.2.1 = some (tyX9 k) := by decide +kernel
abbrev cX9_init : ByteArray := prog_11_method_1_code
def yX9_init : MethodName := ⟨RX9, "<init>", "()V"⟩
abbrev cX9_thrown : ByteArray := prog_11_method_2_code
def yX9_thrown : MethodName := ⟨RX9, "thrown", "()I"⟩
abbrev cX9_outside : ByteArray := prog_11_method_3_code
def yX9_outside : MethodName := ⟨RX9, "outside", "(II)Z"⟩
abbrev cX9_need : ByteArray := prog_11_method_4_code
def yX9_need : MethodName := ⟨RX9, "need", "(Z)Z"⟩
abbrev cX9_chainOf : ByteArray := prog_11_method_5_code
def yX9_chainOf : MethodName := ⟨RX9, "chainOf", "(IIII)I"⟩
abbrev cX9_typeOf : ByteArray := prog_11_method_6_code
def yX9_typeOf : MethodName := ⟨RX9, "typeOf", "(III)I"⟩
abbrev cX9_truths : ByteArray := prog_11_method_7_code
def yX9_truths : MethodName := ⟨RX9, "truths", "()I"⟩
abbrev cX9_functions : ByteArray := prog_11_method_8_code
def yX9_functions : MethodName := ⟨RX9, "functions", "(II)I"⟩
abbrev cX9_fits : ByteArray := prog_11_method_9_code
def yX9_fits : MethodName := ⟨RX9, "fits", "(II)Z"⟩
abbrev cX9_exchanged : ByteArray := prog_11_method_10_code
def yX9_exchanged : MethodName := ⟨RX9, "exchanged", "(I)I"⟩
abbrev cX9_node : ByteArray := prog_11_method_11_code
def yX9_node : MethodName := ⟨RX9, "node", "(IIII)I"⟩
abbrev cX9_free : ByteArray := prog_11_method_12_code
def yX9_free : MethodName := ⟨RX9, "free", "(II)I"⟩
abbrev cX9_constant : ByteArray := prog_11_method_13_code
def yX9_constant : MethodName := ⟨RX9, "constant", "(II)I"⟩
abbrev cX9_canApply : ByteArray := prog_11_method_14_code
def yX9_canApply : MethodName := ⟨RX9, "canApply", "(II)Z"⟩
abbrev cX9_apply : ByteArray := prog_11_method_15_code
def yX9_apply : MethodName := ⟨RX9, "apply", "(II)I"⟩
abbrev cX9_abstracted : ByteArray := prog_11_method_16_code
def yX9_abstracted : MethodName := ⟨RX9, "abstracted", "(II)I"⟩
abbrev cX9_bind : ByteArray := prog_11_method_17_code
def yX9_bind : MethodName := ⟨RX9, "bind", "(III)I"⟩
abbrev cX9_abstraction : ByteArray := prog_11_method_18_code
def yX9_abstraction : MethodName := ⟨RX9, "abstraction", "(II)I"⟩
abbrev cX9_opened : ByteArray := prog_11_method_19_code
def yX9_opened : MethodName := ⟨RX9, "opened", "(III)I"⟩
abbrev cX9_replaced : ByteArray := prog_11_method_20_code
def yX9_replaced : MethodName := ⟨RX9, "replaced", "(III)I"⟩
abbrev cX9_retyped : ByteArray := prog_11_method_21_code
def yX9_retyped : MethodName := ⟨RX9, "retyped", "(I)I"⟩
abbrev cX9_occurs : ByteArray := prog_11_method_22_code
def yX9_occurs : MethodName := ⟨RX9, "occurs", "(II)Z"⟩
abbrev cX9_isOf : ByteArray := prog_11_method_23_code
def yX9_isOf : MethodName := ⟨RX9, "isOf", "(III)Z"⟩
abbrev cX9_equation : ByteArray := prog_11_method_24_code
def yX9_equation : MethodName := ⟨RX9, "equation", "(II)I"⟩
abbrev cX9_isEquation : ByteArray := prog_11_method_25_code
def yX9_isEquation : MethodName := ⟨RX9, "isEquation", "(I)Z"⟩
abbrev cX9_leftOf : ByteArray := prog_11_method_26_code
def yX9_leftOf : MethodName := ⟨RX9, "leftOf", "(I)I"⟩
abbrev cX9_next : ByteArray := prog_11_method_27_code
def yX9_next : MethodName := ⟨RX9, "next", "()I"⟩
abbrev cX9_nextType : ByteArray := prog_11_method_28_code
def yX9_nextType : MethodName := ⟨RX9, "nextType", "()I"⟩
abbrev cX9_nextTerm : ByteArray := prog_11_method_29_code
def yX9_nextTerm : MethodName := ⟨RX9, "nextTerm", "()I"⟩
abbrev cX9_nextClosed : ByteArray := prog_11_method_30_code
def yX9_nextClosed : MethodName := ⟨RX9, "nextClosed", "()I"⟩
abbrev cX9_nextSequent : ByteArray := prog_11_method_31_code
def yX9_nextSequent : MethodName := ⟨RX9, "nextSequent", "()I"⟩
abbrev cX9_keepType : ByteArray := prog_11_method_32_code
def yX9_keepType : MethodName := ⟨RX9, "keepType", "(I)V"⟩
abbrev cX9_keepTerm : ByteArray := prog_11_method_33_code
def yX9_keepTerm : MethodName := ⟨RX9, "keepTerm", "(I)V"⟩
abbrev cX9_readType : ByteArray := prog_11_method_34_code
def yX9_readType : MethodName := ⟨RX9, "readType", "(I)V"⟩
abbrev cX9_readTerm : ByteArray := prog_11_method_35_code
def yX9_readTerm : MethodName := ⟨RX9, "readTerm", "(I)V"⟩
abbrev cX9_add : ByteArray := prog_11_method_36_code
def yX9_add : MethodName := ⟨RX9, "add", "(I)V"⟩
abbrev cX9_addAll : ByteArray := prog_11_method_37_code
def yX9_addAll : MethodName := ⟨RX9, "addAll", "(II)V"⟩
abbrev cX9_open : ByteArray := prog_11_method_38_code
def yX9_open : MethodName := ⟨RX9, "open", "()V"⟩
abbrev cX9_close : ByteArray := prog_11_method_39_code
def yX9_close : MethodName := ⟨RX9, "close", "(II)V"⟩
abbrev cX9_noteState : ByteArray := prog_11_method_40_code
def yX9_noteState : MethodName := ⟨RX9, "noteState", "(I)V"⟩
abbrev cX9_joined : ByteArray := prog_11_method_41_code
def yX9_joined : MethodName := ⟨RX9, "joined", "(II)V"⟩
abbrev cX9_readStep : ByteArray := prog_11_method_42_code
def yX9_readStep : MethodName := ⟨RX9, "readStep", "(I)V"⟩
abbrev cX9_stepOfTerm : ByteArray := prog_11_method_43_code
def yX9_stepOfTerm : MethodName := ⟨RX9, "stepOfTerm", "(II)V"⟩
abbrev cX9_stepOfTwo : ByteArray := prog_11_method_44_code
def yX9_stepOfTwo : MethodName := ⟨RX9, "stepOfTwo", "(III)V"⟩
abbrev cX9_stepAbstract : ByteArray := prog_11_method_45_code
def yX9_stepAbstract : MethodName := ⟨RX9, "stepAbstract", "(II)V"⟩
abbrev cX9_stepPut : ByteArray := prog_11_method_46_code
def yX9_stepPut : MethodName := ⟨RX9, "stepPut", "()V"⟩
abbrev cX9_stepRetype : ByteArray := prog_11_method_47_code
def yX9_stepRetype : MethodName := ⟨RX9, "stepRetype", "()V"⟩
abbrev cX9_variableOf : ByteArray := prog_11_method_48_code
def yX9_variableOf : MethodName := ⟨RX9, "variableOf", "(I)I"⟩
abbrev cX9_noteType : ByteArray := prog_11_method_49_code
def yX9_noteType : MethodName := ⟨RX9, "noteType", "(I)V"⟩
abbrev cX9_noteAll : ByteArray := prog_11_method_50_code
def yX9_noteAll : MethodName := ⟨RX9, "noteAll", "(I)Z"⟩
abbrev cX9_define : ByteArray := prog_11_method_51_code
def yX9_define : MethodName := ⟨RX9, "define", "(I)V"⟩
abbrev cX9_stepType : ByteArray := prog_11_method_52_code
def yX9_stepType : MethodName := ⟨RX9, "stepType", "(I)V"⟩
abbrev cX9_named : ByteArray := prog_11_method_53_code
def yX9_named : MethodName := ⟨RX9, "named", "(II)I"⟩
abbrev cX9_truth : ByteArray := prog_11_method_54_code
def yX9_truth : MethodName := ⟨RX9, "truth", "()I"⟩
abbrev cX9_and : ByteArray := prog_11_method_55_code
def yX9_and : MethodName := ⟨RX9, "and", "(II)I"⟩
abbrev cX9_implies : ByteArray := prog_11_method_56_code
def yX9_implies : MethodName := ⟨RX9, "implies", "(II)I"⟩
abbrev cX9_all : ByteArray := prog_11_method_57_code
def yX9_all : MethodName := ⟨RX9, "all", "(II)I"⟩
abbrev cX9_choiceOf : ByteArray := prog_11_method_58_code
def yX9_choiceOf : MethodName := ⟨RX9, "choiceOf", "(I)I"⟩
abbrev cX9_some : ByteArray := prog_11_method_59_code
def yX9_some : MethodName := ⟨RX9, "some", "(II)I"⟩
abbrev cX9_not : ByteArray := prog_11_method_60_code
def yX9_not : MethodName := ⟨RX9, "not", "(I)I"⟩
abbrev cX9_extensionality : ByteArray := prog_11_method_61_code
def yX9_extensionality : MethodName := ⟨RX9, "extensionality", "()I"⟩
abbrev cX9_chosen : ByteArray := prog_11_method_62_code
def yX9_chosen : MethodName := ⟨RX9, "chosen", "()I"⟩
abbrev cX9_infinite : ByteArray := prog_11_method_63_code
def yX9_infinite : MethodName := ⟨RX9, "infinite", "()I"⟩
abbrev cX9_stepAxiom : ByteArray := prog_11_method_64_code
def yX9_stepAxiom : MethodName := ⟨RX9, "stepAxiom", "(I)V"⟩
abbrev cX9_say : ByteArray := prog_11_method_65_code
def yX9_say : MethodName := ⟨RX9, "say", "(I)Z"⟩
abbrev cX9_cutTypes : ByteArray := prog_11_method_66_code
def yX9_cutTypes : MethodName := ⟨RX9, "cutTypes", "(I)V"⟩
abbrev cX9_cutNodes : ByteArray := prog_11_method_67_code
def yX9_cutNodes : MethodName := ⟨RX9, "cutNodes", "(I)V"⟩
abbrev cX9_judge : ByteArray := prog_11_method_68_code
def yX9_judge : MethodName := ⟨RX9, "judge", "()I"⟩
abbrev cX9_fault : ByteArray := prog_11_method_69_code
def yX9_fault : MethodName := ⟨RX9, "fault", "()I"⟩
abbrev cX9_size : ByteArray := prog_11_method_70_code
def yX9_size : MethodName := ⟨RX9, "size", "()I"⟩
abbrev cX9_hypotheses : ByteArray := prog_11_method_71_code
def yX9_hypotheses : MethodName := ⟨RX9, "hypotheses", "(I)I"⟩
abbrev cX9_partAt : ByteArray := prog_11_method_72_code
def yX9_partAt : MethodName := ⟨RX9, "partAt", "(II)I"⟩
abbrev cX9_look : ByteArray := prog_11_method_73_code
def yX9_look : MethodName := ⟨RX9, "look", "(III)I"⟩
abbrev cX9_symbol : ByteArray := prog_11_method_74_code
def yX9_symbol : MethodName := ⟨RX9, "symbol", "(III)I"⟩
abbrev cX9_typeSymbol : ByteArray := prog_11_method_75_code
def yX9_typeSymbol : MethodName := ⟨RX9, "typeSymbol", "(IIII)I"⟩
abbrev cX9_canCut : ByteArray := prog_11_method_76_code
def yX9_canCut : MethodName := ⟨RX9, "canCut", "(I)Z"⟩
abbrev cX9_cutTo : ByteArray := prog_11_method_77_code
def yX9_cutTo : MethodName := ⟨RX9, "cutTo", "(I)V"⟩
abbrev cX9_cut : ByteArray := prog_11_method_78_code
def yX9_cut : MethodName := ⟨RX9, "cut", "(I)V"⟩
abbrev cX9_mark : ByteArray := prog_11_method_79_code
def yX9_mark : MethodName := ⟨RX9, "mark", "(III)V"⟩
abbrev cX9_keep : ByteArray := prog_11_method_80_code
def yX9_keep : MethodName := ⟨RX9, "keep", "(II)V"⟩
def RJx8e188 : String := "java/lang/Cloneable"
def RJ9 : String := "java/lang/Math"
abbrev cJ9_max_7cf53 : ByteArray := prog_17_method_65_code
def yJ9_max_7cf53 : MethodName := ⟨RJ9, "max", "(II)I"⟩
abbrev cJ9_min_7cf53 : ByteArray := prog_17_method_69_code
def yJ9_min_7cf53 : MethodName := ⟨RJ9, "min", "(II)I"⟩
def RJ0 : String := "java/lang/String"
def RJ10 : String := "java/lang/System"
def RJ7 : String := "java/util/Arrays"
abbrev cJ7_fill_53178 : ByteArray := prog_22_method_103_code
def yJ7_fill_53178 : MethodName := ⟨RJ7, "fill", "([II)V"⟩
abbrev cJ7_copyOf_59c91 : ByteArray := prog_22_method_123_code
def yJ7_copyOf_59c91 : MethodName := ⟨RJ7, "copyOf", "([II)[I"⟩
def RL : String := "TraceJudgeLaw"
abbrev cL_hypotheses : ByteArray := method_3_code
def yL_hypotheses : MethodName := ⟨RL, "hypotheses", "(LTraceJudge;I[J)I"⟩
abbrev cL_symbol : ByteArray := method_4_code
def yL_symbol : MethodName := ⟨RL, "symbol", "(LTraceJudge;III[J)I"⟩
abbrev cL_typeSymbol : ByteArray := method_5_code
def yL_typeSymbol : MethodName := ⟨RL, "typeSymbol", "(LTraceJudge;IIII[J)I"⟩
abbrev cL_cut : ByteArray := method_6_code
def yL_cut : MethodName := ⟨RL, "cut", "(LTraceJudge;I)I"⟩
abbrev cL_keep : ByteArray := method_7_code
def yL_keep : MethodName := ⟨RL, "keep", "(LTraceJudge;II)I"⟩
abbrev cL_law : ByteArray := code
def yL_law : MethodName := ⟨RL, "law", "([I)Z"⟩
abbrev vwCl : List vw_C := [(RX0, TX0, 5), (RX1, TX1, 14), (RX2, TX2, 4), (RX3, TX3, 8), (RX4, TX4, 9), (RX5, TX5, 6), (RX6, TX6, 5), (RX7, TX7, 9), (RX8, TX8, 10), (RX9, TX9, 53)]
/-- the tables, by parts -/
def am_T : List (List Cond) := [k2_sels lw_privs, tables_1_1, tables_1_2, tables_1_3, tables_1_4, tables_1_5, tables_1_6, tables_1_7]
/-- the words that every method gets -/
def am_W : List Cond := lw_tbl.filter goodWord
def am_wd (q : Nat × Nat) : Option Cond := match am_T[q.1]? with
  | some l => l[q.2]?
  | none => none
theorem am_wd_in {q : Nat × Nat} {w : Cond} (h : am_wd q = some w) : w ∈ lw_tbl := by
  unfold am_wd at h
  split at h
  · rename_i l hl
    have h1 : w ∈ l := List.mem_of_getElem? h
    have h2 : l ∈ am_T := List.mem_of_getElem? hl
    simp only [am_T, List.mem_cons, List.not_mem_nil, or_false] at h2
    unfold lw_tbl tables_1
    rcases h2 with rfl | rfl | rfl | rfl | rfl | rfl | rfl | rfl <;> simp only [List.mem_append] <;> simp [h1]
  · cases h
theorem am_in {q : Nat × Nat} {w : Cond} (h : am_wd q = some w) (hg : goodWord w = true) : w ∈ am_W := List.mem_filter.mpr ⟨am_wd_in h, hg⟩
theorem am_ins (ws : List Cond) (ps : List (Nat × Nat)) (hp : ws.map some = ps.map am_wd) (h : ws.all goodWord = true) : ∀ w ∈ ws, w ∈ am_W := by
  intro w hw
  have h1 : some w ∈ ps.map am_wd := by rw [← hp]; exact List.mem_map.mpr ⟨w, hw, rfl⟩
  obtain ⟨q, -, hq⟩ := List.mem_map.mp h1
  exact am_in hq (List.all_eq_true.mp h w hw)
theorem am_W_good {w : Cond} (h : w ∈ am_W) : goodWord w = true := (List.mem_filter.mp h).2
theorem am_W_tbl {w : Cond} (h : w ∈ am_W) : w ∈ lw_tbl := (List.mem_filter.mp h).1
theorem am_in0 : ∀ w ∈ u_ws RX0 TX0 5, w ∈ am_W := am_ins _ [(2, 80), (2, 82), (2, 84), (2, 86), (2, 88)] (by decide +kernel) (by decide +kernel)
theorem am_in1 : ∀ w ∈ u_ws RX1 TX1 14, w ∈ am_W := am_ins _ [(1, 172), (1, 174), (1, 176), (1, 178), (1, 180), (1, 182), (1, 184), (1, 186), (1, 188), (1, 190), (1, 192), (1, 194), (1, 196), (1, 198)] (by decide +kernel) (by decide +kernel)
theorem am_in2 : ∀ w ∈ u_ws RX2 TX2 4, w ∈ am_W := am_ins _ [(3, 70), (3, 72), (3, 74), (3, 76)] (by decide +kernel) (by decide +kernel)
theorem am_in3 : ∀ w ∈ u_ws RX3 TX3 8, w ∈ am_W := am_ins _ [(1, 228), (1, 230), (1, 232), (1, 234), (1, 236), (1, 238), (2, 0), (2, 2)] (by decide +kernel) (by decide +kernel)
theorem am_in4 : ∀ w ∈ u_ws RX4 TX4 9, w ∈ am_W := am_ins _ [(2, 26), (2, 28), (2, 30), (2, 32), (2, 34), (2, 36), (2, 38), (2, 40), (2, 42)] (by decide +kernel) (by decide +kernel)
theorem am_in5 : ∀ w ∈ u_ws RX5 TX5 6, w ∈ am_W := am_ins _ [(1, 132), (1, 134), (1, 136), (1, 138), (1, 140), (1, 142)] (by decide +kernel) (by decide +kernel)
theorem am_in6 : ∀ w ∈ u_ws RX6 TX6 5, w ∈ am_W := am_ins _ [(2, 56), (2, 58), (2, 60), (2, 62), (2, 64)] (by decide +kernel) (by decide +kernel)
theorem am_in7 : ∀ w ∈ u_ws RX7 TX7 9, w ∈ am_W := am_ins _ [(1, 96), (1, 98), (1, 100), (1, 102), (1, 104), (1, 106), (1, 108), (1, 110), (1, 112)] (by decide +kernel) (by decide +kernel)
theorem am_in8 : ∀ w ∈ u_ws RX8 TX8 10, w ∈ am_W := am_ins _ [(2, 101), (2, 103), (2, 105), (2, 107), (2, 109), (2, 111), (2, 113), (2, 115), (2, 117), (2, 119)] (by decide +kernel) (by decide +kernel)
theorem am_in9 : ∀ w ∈ u_ws RX9 TX9 53, w ∈ am_W := am_ins _ [(5, 94), (5, 96), (5, 98), (5, 100), (5, 102), (5, 104), (5, 106), (5, 108), (5, 110), (5, 112), (5, 114), (5, 116), (5, 118), (5, 120), (5, 122), (5, 124), (5, 126), (5, 128), (5, 130), (5, 132), (5, 134), (5, 136), (5, 138), (5, 140), (5, 142), (5, 144), (5, 146), (5, 148), (5, 150), (5, 152), (5, 154), (5, 156), (5, 158), (5, 160), (5, 162), (5, 164), (5, 166), (5, 168), (5, 170), (5, 172), (5, 174), (5, 176), (5, 178), (5, 180), (5, 182), (5, 184), (5, 186), (5, 188), (5, 190), (5, 192), (5, 194), (5, 196), (5, 198)] (by decide +kernel) (by decide +kernel)
def am_NF : List (String × Nat × String × String × String × String) := [("TraceJudge$Steps", 219, "TraceJudge$Types", "code", "[I", "TraceJudge"), ("TraceJudge$Steps", 91, "TraceJudge$Types", "left", "[I", "TraceJudge"), ("TraceJudge$Entries", 98, "TraceJudge$Types", "left", "[I", "TraceJudge"), ("TraceJudge$Steps", 93, "TraceJudge$Types", "right", "[I", "TraceJudge"), ("TraceJudge$Entries", 99, "TraceJudge$Types", "right", "[I", "TraceJudge"), ("TraceJudge", 128, "TraceJudge$Types", "symbols", "[I", "TraceJudge"), ("TraceJudge$Rows", 57, "TraceJudge$Types", "image", "[I", "TraceJudge"), ("TraceJudge$Sequents", 43, "TraceJudge$Types", "count", "I", "TraceJudge"), ("TraceJudge", 83, "TraceJudge$Types", "count", "I", "TraceJudge"), ("TraceJudge$Entries", 73, "TraceJudge$Signature", "takes", "[I", "TraceJudge"), ("TraceJudge", 196, "TraceJudge$Signature", "takes", "[I", "TraceJudge"), ("TraceJudge$Entries", 88, "TraceJudge$Signature", "own", "[I", "TraceJudge"), ("TraceJudge$Steps", 165, "TraceJudge$Entries", "typeAt", "[I", "TraceJudge"), ("TraceJudge$Sequents", 99, "TraceJudge$Entries", "typeCount", "I", "TraceJudge"), ("TraceJudge$Steps", 101, "TraceJudge$Entries", "code", "[I", "TraceJudge"), ("TraceJudge$Steps", 37, "TraceJudge$Entries", "type", "[I", "TraceJudge"), ("TraceJudge$Steps", 125, "TraceJudge$Entries", "left", "[I", "TraceJudge"), ("TraceJudge$Steps", 126, "TraceJudge$Entries", "right", "[I", "TraceJudge"), ("TraceJudge$Sequents", 104, "TraceJudge$Entries", "termCount", "I", "TraceJudge"), ("TraceJudge", 125, "TraceJudge$Rows", "code", "[I", "TraceJudge"), ("TraceJudge$Steps", 144, "TraceJudge$Rows", "code", "[I", "TraceJudge"), ("TraceJudge", 131, "TraceJudge$Rows", "type", "[I", "TraceJudge"), ("TraceJudge$Steps", 145, "TraceJudge$Rows", "type", "[I", "TraceJudge"), ("TraceJudge$Steps", 127, "TraceJudge$Rows", "top", "I", "TraceJudge"), ("TraceJudge$Sequents", 82, "TraceJudge$Rows", "top", "I", "TraceJudge"), ("TraceJudge$Steps", 104, "TraceJudge$Rows", "start", "[I", "TraceJudge"), ("TraceJudge$Sequents", 57, "TraceJudge$Rows", "start", "[I", "TraceJudge"), ("TraceJudge", 165, "TraceJudge$Rows", "start", "[I", "TraceJudge"), ("TraceJudge$Sequents", 81, "TraceJudge$Rows", "count", "I", "TraceJudge"), ("TraceJudge$Steps", 130, "TraceJudge$Rows", "bad", "Z", "TraceJudge"), ("TraceJudge$Sequents", 66, "TraceJudge$Rows", "bad", "Z", "TraceJudge"), ("TraceJudge$Entries", 123, "TraceJudge$Rows", "bad", "Z", "TraceJudge"), ("TraceJudge", 86, "TraceJudge$Sequents", "count", "I", "TraceJudge"), ("TraceJudge$Steps", 107, "TraceJudge$Sequents", "first", "[I", "TraceJudge"), ("TraceJudge", 168, "TraceJudge$Sequents", "first", "[I", "TraceJudge"), ("TraceJudge", 148, "TraceJudge$Sequents", "typesThen", "[I", "TraceJudge"), ("TraceJudge", 151, "TraceJudge$Sequents", "entryTypesThen", "[I", "TraceJudge"), ("TraceJudge", 154, "TraceJudge$Sequents", "entryTermsThen", "[I", "TraceJudge"), ("TraceJudge$Steps", 70, "TraceJudge$Equation", "left", "I", "TraceJudge"), ("TraceJudge$Steps", 61, "TraceJudge$Equation", "right", "I", "TraceJudge"), ("TraceJudge$Steps", 67, "TraceJudge$Equation", "end", "I", "TraceJudge"), ("TraceJudge$Steps", 81, "TraceJudge$Equation", "type", "I", "TraceJudge")]
def am_NM : List (String × Nat × MethodName × String) := [("TraceJudge$Types", 60, ⟨"TraceJudge", "partOf", "([II)I"⟩, "TraceJudge"), ("TraceJudge$Entries", 61, ⟨"TraceJudge", "isName", "(I)Z"⟩, "TraceJudge"), ("TraceJudge$Entries", 103, ⟨"TraceJudge", "longer", "([I)[I"⟩, "TraceJudge"), ("TraceJudge$Entries", 107, ⟨"TraceJudge", "partOf", "([II)I"⟩, "TraceJudge"), ("TraceJudge$Rows", 39, ⟨"TraceJudge", "longer", "([I)[I"⟩, "TraceJudge"), ("TraceJudge$Sequents", 95, ⟨"TraceJudge", "longer", "([I)[I"⟩, "TraceJudge"), ("TraceJudge$Steps", 155, ⟨"TraceJudge", "isName", "(I)Z"⟩, "TraceJudge")]
def am_SF : Nat → Option (String × String × String) := fun k => match k with
  | 0 => some ("TraceJudge$Axioms", "EXTENSION", "[I")
  | 1 => some ("TraceJudge", "ENTRY_LENGTHS", "[I")
  | 2 => some ("TraceJudge$Axioms", "SELECTION", "[I")
  | 3 => some ("TraceJudge$Axioms", "INFINITY", "[I")
  | 4 => some ("TraceJudge$Axioms", "UNBOUND", "[I")
  | _ => none
/-- the fields of a new object -/
def am_dfl : Nat → List Value := fun k => match k with
  | 0 => [.null, .null, .null, .null, .null]
  | 1 => [.null, .null, .null, .int 0, .null, .null, .null, .null, .null, .null, .null, .int 0, .null, .null]
  | 2 => [.int 0, .int 0, .int 0, .int 0]
  | 3 => [.null, .null, .null, .int 0, .null, .int 0, .int 0, .null]
  | 4 => [.null, .null, .null, .int 0, .int 0, .null, .null, .null, .null]
  | 5 => [.null, .null, .int 0, .int 0, .int 0, .int 0]
  | 6 => [.null, .null, .null, .null, .null]
  | 7 => [.null, .null, .null, .null, .null, .null, .null, .null, .int 0]
  | 8 => [.null, .null, .null, .null, .null, .null, .null, .null, .int 0, .int 0]
  | 9 => [.int 0, .int 0, .null, .int 0, .int 0, .null, .null, .null, .null, .null, .null, .null, .null, .int 0, .null, .int 0, .null, .int 0, .null, .null, .null, .null, .null, .null, .null, .null, .null, .null, .int 0, .int 0, .null, .null, .int 0, .int 0, .int 0, .null, .null, .null, .null, .null, .null, .null, .null, .null, .int 0, .int 0, .int 0, .null, .null, .int 0, .null, .int 0, .null]
  | _ => []
end
section
/-! THE ABSTRACT MACHINE: a pure function that runs resolved rows of bytecode over a heap of int arrays and objects at absolute addresses. -/
abbrev am_C : Type := (Nat × (Nat → Int32)) ⊕ (Nat × List Value)
/-- the heap's size, its known cells, the slots made so far -/
abbrev am_S : Type := Nat × (Nat → Option am_C) × Nat
abbrev am_L : Type := List (Nat × Value)
/-- a row: pc, instruction, length, stop (0 none, 1 an end, m + 2 a head that keeps the locals of the mask m), three resolved numbers -/
abbrev am_I : Type := Nat × Instr × Nat × Nat × Nat × Nat × Nat
/-- where a run stopped: pc, locals, stack, state -/
abbrev am_O : Type := Nat × am_L × List Value × am_S
/-- a method: name, bytes, locals, answer, rows -/
abbrev am_M : Type := MethodName × ByteArray × Nat × Option FieldType × List am_I
abbrev am_F : Type := Nat → List Value → am_S → Option (Option Value × am_S)
def am_upd (h : Nat → Option am_C) (a : Nat) (c : am_C) : Nat → Option am_C := fun x => if x = a then some c else h x
def am_arr (σ : am_S) (a : Nat) : Option (Nat × (Nat → Int32)) := match σ.2.1 a with
  | some (.inl x) => some x
  | _ => none
def am_obj (σ : am_S) (a ci : Nat) : Option (List Value) := match σ.2.1 a with
  | some (.inr x) => if x.1 = ci then some x.2 else none
  | _ => none
def am_iald (σ : am_S) (a : Nat) (i : Int32) : Option Int32 := (am_arr σ a).bind fun x => if i < 0 ∨ x.1 ≤ i.toNatClampNeg then none else some (x.2 i.toNatClampNeg)
def am_alen (σ : am_S) (a : Nat) : Option Int32 := (am_arr σ a).bind fun x => some (Int32.ofNat x.1)
def am_iast (B : Nat) (σ : am_S) (a : Nat) (i x : Int32) : Option am_S := (am_arr σ a).bind fun y => if a < B ∨ i < 0 ∨ y.1 ≤ i.toNatClampNeg then none else some (σ.1, am_upd σ.2.1 a (.inl (y.1, upd y.2 i.toNatClampNeg x)), σ.2.2)
def am_geti (σ : am_S) (a ci k : Nat) : Option Int32 := (am_obj σ a ci).bind fun fs => match fs[k]? with
  | some (.int x) => some x
  | _ => none
def am_getr (σ : am_S) (a ci k : Nat) : Option Nat := (am_obj σ a ci).bind fun fs => match fs[k]? with
  | some (.ref x) => some x
  | _ => none
def am_put (B : Nat) (σ : am_S) (a ci k : Nat) (v : Value) : Option am_S := (am_obj σ a ci).bind fun fs => if a < B ∨ fs.length ≤ k then none else some (σ.1, am_upd σ.2.1 a (.inr (ci, fs.set k v)), σ.2.2)
def am_new (σ : am_S) (ci : Nat) (fs : List Value) : am_S := (σ.1 + 1, am_upd σ.2.1 σ.1 (.inr (ci, fs)), σ.2.2 + fs.length)
def am_nwa (σ : am_S) (n : Nat) : am_S := (σ.1 + 1, am_upd σ.2.1 σ.1 (.inl (n, fun _ => 0)), σ.2.2 + n)
/-- System.arraycopy of n ints from place sp of a0 to place dp of a -/
def am_cpy (B : Nat) (σ : am_S) (a0 : Nat) (sp : Int32) (a : Nat) (dp n : Int32) : Option am_S :=
  (am_arr σ a0).bind fun x => (am_arr σ a).bind fun y =>
    if a0 < B ∨ a < B ∨ sp < 0 ∨ dp < 0 ∨ n < 0 ∨ x.1 < sp.toNatClampNeg + n.toNatClampNeg ∨ y.1 < dp.toNatClampNeg + n.toNatClampNeg then none
    else some (σ.1, am_upd σ.2.1 a (.inl (y.1, va_cpy x.2 y.2 sp.toNatClampNeg dp.toNatClampNeg n.toNatClampNeg)), σ.2.2)
def am_sto (L : am_L) (i : Nat) (v : Value) : am_L := (i, v) :: L.filter (fun q => !(q.1 == i) && !(q.1 + 1 == i && q.2.category == 2))
def am_lk : am_L → Nat → Option Value
  | [], _ => none
  | q :: L, i => if q.1 = i then some q.2 else am_lk L i
/-- the locals that a mask names, in their order -/
def am_keep (L : am_L) : Nat → Nat → Nat → Option am_L
  | _, 0, _ => some []
  | i, n + 1, m => if m % 2 = 0 then am_keep L (i + 1) n (m / 2) else (am_lk L i).bind fun v => (am_keep L (i + 1) n (m / 2)).bind fun r => some ((i, v) :: r)
def am_small (st : List Value) : Bool := decide ((st.map fun v => v.category).sum ≤ 8)
def am_sw {α : Type} (v : Int) (dflt : α) (jp : Int → α) : List Int → Int → α
  | [], _ => dflt
  | o :: os, lo => if v = lo then jp o else am_sw v dflt jp os (lo + 1)
/-- what a call gives back, by its kind: 0 nothing, 1 an int, 2 a reference or null -/
def am_back {α : Type} (kind : Nat) (r : Option (Option Value × am_S)) (rest : List Value) (nx : List Value → am_S → Option α) : Option α := match kind with
  | 0 => r.bind fun q => match q.1 with
    | none => nx rest q.2
    | _ => none
  | 1 => r.bind fun q => match q.1 with
    | some (.int x) => nx (.int x :: rest) q.2
    | _ => none
  | _ => r.bind fun q => match q.1 with
    | some (.ref a) => nx (.ref a :: rest) q.2
    | some .null => nx (.null :: rest) q.2
    | _ => none
def am_cond (c : Jvm.ClassFile.Cond) (x y : Int32) : Bool := match c with
  | .eq => decide (x = y)
  | .ne => decide (x ≠ y)
  | .lt => decide (x < y)
  | .ge => decide (y ≤ x)
  | .gt => decide (y < x)
  | .le => decide (x ≤ y)
/-- a call of a method of the table -/
def am_inv {α : Type} (cl : am_F) (x n ret : Nat) (st : List Value) (σ : am_S) (nx : List Value → am_S → Option α) : Option α :=
  if st.length < n then none else if am_small (st.drop n) then am_back ret (cl x (st.take n).reverse σ) (st.drop n) nx else none
/-- the same of a constructor -/
def am_invI {α : Type} (cl : am_F) (x n : Nat) (st : List Value) (σ : am_S) (nx : List Value → am_S → Option α) : Option α :=
  if st.length < n then none else if am_small (st.drop n) then (match (st.take n).reverse with
    | .ref b :: as => am_back 0 (cl x (.ref b :: as) σ) (st.drop n) nx
    | _ => none) else none
/-- the same of an object's method: the receiver is an object of that class -/
def am_invV {α : Type} (cl : am_F) (x n ret ci : Nat) (st : List Value) (σ : am_S) (nx : List Value → am_S → Option α) : Option α :=
  if st.length < n then none else if am_small (st.drop n) then (match (st.take n).reverse with
    | .ref b :: as => (am_obj σ b ci).bind fun _ => am_back ret (cl x (.ref b :: as) σ) (st.drop n) nx
    | _ => none) else none
/-- one row: nx is the next row, jp the row at a pc -/
def am_step {α : Type} (B : Nat) (sa : Nat → Nat) (dfl : Nat → List Value) (cl : am_F) (e : am_I) (L : am_L) (st : List Value) (σ : am_S) (nx : am_L → List Value → am_S → Option α) (jp : Nat → am_L → List Value → am_S → Option α) : Option α :=
  match e.2.1 with
  | .iconst n => nx L (.int (Int32.ofInt n) :: st) σ
  | .bipush n => nx L (.int (Int8.ofInt n).toInt32 :: st) σ
  | .sipush n => nx L (.int (Int16.ofInt n).toInt32 :: st) σ
  | .ldc _ => nx L (.int (Int32.ofNat e.2.2.2.2.1) :: st) σ
  | .ldc_w _ => nx L (.int (Int32.ofNat e.2.2.2.2.1) :: st) σ
  | .aconst_null => nx L (.null :: st) σ
  | .iload_n k => match am_lk L k.val with
    | some (.int v) => nx L (.int v :: st) σ
    | _ => none
  | .iload k => match am_lk L k with
    | some (.int v) => nx L (.int v :: st) σ
    | _ => none
  | .aload_n k => match am_lk L k.val with
    | some (.ref v) => nx L (.ref v :: st) σ
    | some .null => nx L (.null :: st) σ
    | _ => none
  | .aload k => match am_lk L k with
    | some (.ref v) => nx L (.ref v :: st) σ
    | some .null => nx L (.null :: st) σ
    | _ => none
  | .istore_n k => match st with
    | .int v :: r => nx (am_sto L k.val (.int v)) r σ
    | _ => none
  | .istore k => match st with
    | .int v :: r => nx (am_sto L k (.int v)) r σ
    | _ => none
  | .astore_n k => match st with
    | .ref v :: r => nx (am_sto L k.val (.ref v)) r σ
    | .null :: r => nx (am_sto L k.val .null) r σ
    | _ => none
  | .astore k => match st with
    | .ref v :: r => nx (am_sto L k (.ref v)) r σ
    | .null :: r => nx (am_sto L k .null) r σ
    | _ => none
  | .iinc k n => match am_lk L k with
    | some (.int v) => nx (am_sto L k (.int (v + Int32.ofInt n))) st σ
    | _ => none
  | .iadd => match st with
    | .int y :: .int x :: r => nx L (.int (x + y) :: r) σ
    | _ => none
  | .isub => match st with
    | .int y :: .int x :: r => nx L (.int (x - y) :: r) σ
    | _ => none
  | .imul => match st with
    | .int y :: .int x :: r => nx L (.int (x * y) :: r) σ
    | _ => none
  | .iand => match st with
    | .int y :: .int x :: r => nx L (.int (x &&& y) :: r) σ
    | _ => none
  | .ixor => match st with
    | .int y :: .int x :: r => nx L (.int (x ^^^ y) :: r) σ
    | _ => none
  | .iushr => match st with
    | .int y :: .int x :: r => nx L (.int (x.toUInt32 >>> (y.toUInt32 &&& Int32.toUInt32 31)).toInt32 :: r) σ
    | _ => none
  | .idiv => match st with
    | .int y :: .int x :: r => if y = 0 then none else nx L (.int (x / y) :: r) σ
    | _ => none
  | .irem => match st with
    | .int y :: .int x :: r => if y = 0 then none else nx L (.int (x - x / y * y) :: r) σ
    | _ => none
  | .ineg => match st with
    | .int x :: r => nx L (.int (-x) :: r) σ
    | _ => none
  | .dup => match st with
    | .int x :: r => nx L (.int x :: .int x :: r) σ
    | .ref x :: r => nx L (.ref x :: .ref x :: r) σ
    | _ => none
  | .dup2 => match st with
    | .int y :: .ref x :: r => nx L (.int y :: .ref x :: .int y :: .ref x :: r) σ
    | _ => none
  | .pop => match st with
    | .int _ :: r => nx L r σ
    | .ref _ :: r => nx L r σ
    | _ => none
  | .goto _ => jp e.2.2.2.2.1 L st σ
  | .if_icmp c _ => match st with
    | .int y :: .int x :: r => if am_cond c x y = true then jp e.2.2.2.2.1 L r σ else nx L r σ
    | _ => none
  | .ifCond c _ => match st with
    | .int x :: r => if am_cond c x 0 = true then jp e.2.2.2.2.1 L r σ else nx L r σ
    | _ => none
  | .ifnull _ => match st with
    | .null :: r => jp e.2.2.2.2.1 L r σ
    | .ref _ :: r => nx L r σ
    | _ => none
  | .ifnonnull _ => match st with
    | .null :: r => nx L r σ
    | .ref _ :: r => jp e.2.2.2.2.1 L r σ
    | _ => none
  | .tableswitch dflt lo _ offs => match st with
    | .int x :: r => am_sw x.toInt (jp ((e.1 : Int) + dflt).toNat L r σ) (fun o => jp ((e.1 : Int) + o).toNat L r σ) offs.toList lo
    | _ => none
  | .getfield _ => match st with
    | .ref a :: r => if e.2.2.2.2.2.2 % 2 = 0 then (am_geti σ a e.2.2.2.2.1 e.2.2.2.2.2.1).bind fun v => nx L (.int v :: r) σ else (am_getr σ a e.2.2.2.2.1 e.2.2.2.2.2.1).bind fun v => nx L (.ref v :: r) σ
    | _ => none
  | .putfield _ => match st with
    | .int v :: .ref a :: r => if e.2.2.2.2.2.2 % 3 = 0 then (am_put B σ a e.2.2.2.2.1 e.2.2.2.2.2.1 (.int v)).bind fun σ' => nx L r σ'
        else if e.2.2.2.2.2.2 % 3 = 2 then (if v = 0 ∨ v = 1 then (am_put B σ a e.2.2.2.2.1 e.2.2.2.2.2.1 (.int v)).bind fun σ' => nx L r σ' else none) else none
    | .ref v :: .ref a :: r => if e.2.2.2.2.2.2 % 3 = 1 then (am_put B σ a e.2.2.2.2.1 e.2.2.2.2.2.1 (.ref v)).bind fun σ' => nx L r σ' else none
    | _ => none
  | .getstatic _ => nx L (.ref (sa e.2.2.2.2.1) :: st) σ
  | .iaload => match st with
    | .int i :: .ref a :: r => (am_iald σ a i).bind fun v => nx L (.int v :: r) σ
    | _ => none
  | .iastore => match st with
    | .int x :: .int i :: .ref a :: r => (am_iast B σ a i x).bind fun σ' => nx L r σ'
    | _ => none
  | .arraylength => match st with
    | .ref a :: r => (am_alen σ a).bind fun v => nx L (.int v :: r) σ
    | _ => none
  | .newarray .int => match st with
    | .int n :: r => if n < 0 ∨ 100000 < n then none else nx L (.ref σ.1 :: r) (am_nwa σ n.toNatClampNeg)
    | _ => none
  | .new _ => nx L (.ref σ.1 :: st) (am_new σ e.2.2.2.2.1 (dfl e.2.2.2.2.1))
  | .invokespecial _ => if e.2.2.2.2.2.2 = 0 then (match st with
    | .ref _ :: r => if am_small r then nx L r σ else none
    | _ => none) else am_invI cl e.2.2.2.2.1 (e.2.2.2.2.2.1 + 1) st σ (nx L)
  | .invokevirtual _ => am_invV cl e.2.2.2.2.1 (e.2.2.2.2.2.1 + 1) (e.2.2.2.2.2.2 / 10 % 10) (e.2.2.2.2.2.2 / 100) st σ (nx L)
  | .invokestatic _ => if e.2.2.2.2.2.2 = 5 then (match st with
    | .int y :: .int x :: r => if am_small r then nx L (.int (if x < y then y else x) :: r) σ else none
    | _ => none) else if e.2.2.2.2.2.2 = 6 then (match st with
    | .int y :: .int x :: r => if am_small r then nx L (.int (if y < x then y else x) :: r) σ else none
    | _ => none) else if e.2.2.2.2.2.2 = 7 then (match st with
    | .int n :: .int dp :: .ref a :: .int sp :: .ref a0 :: r => if am_small r then (am_cpy B σ a0 sp a dp n).bind fun σ' => nx L r σ' else none
    | _ => none) else am_inv cl e.2.2.2.2.1 e.2.2.2.2.2.1 (e.2.2.2.2.2.2 / 10 % 10) st σ (nx L)
  | _ => none
/-- a stretch: from the row at the head of cur on, up to the first row that stops -/
def am_blk (B : Nat) (sa : Nat → Nat) (dfl : Nat → List Value) (cl : am_F) (code : List am_I) : Nat → List am_I → am_L → List Value → am_S → Option am_O
  | 0, _, _, _, _ => none
  | _ + 1, [], _, _, _ => none
  | g + 1, e :: rest, L, st, σ => am_step B sa dfl cl e L st σ
      (fun L st σ => match rest with
        | [] => none
        | e' :: _ => if e'.2.2.2.1 = 0 then am_blk B sa dfl cl code g rest L st σ else some (e'.1, L, st, σ))
      (fun pc L st σ => match code.dropWhile (fun e' => e'.1 != pc) with
        | [] => none
        | e' :: r => if e'.2.2.2.1 = 0 then am_blk B sa dfl cl code g (e' :: r) L st σ else some (e'.1, L, st, σ))
/-- stretch after stretch, up to an end: its pc, stack, state -/
def am_exec (B : Nat) (sa : Nat → Nat) (dfl : Nat → List Value) (cl : am_F) (code : List am_I) : Nat → Nat → am_L → List Value → am_S → Option (Nat × List Value × am_S)
  | 0, _, _, _, _ => none
  | f + 1, pc, L, st, σ => (am_blk B sa dfl cl code code.length (code.dropWhile (fun e' => e'.1 != pc)) L st σ).bind fun o =>
      match code.dropWhile (fun e' => e'.1 != o.1) with
      | [] => none
      | e' :: _ => if e'.2.2.2.1 = 1 then some (o.1, o.2.2.1, o.2.2.2) else (am_keep o.2.1 0 16 (e'.2.2.2.1 - 2)).bind fun L' => am_exec B sa dfl cl code f o.1 L' o.2.2.1 o.2.2.2
/-- an end that returns: the answer -/
def am_end (code : List am_I) (o : Nat × List Value × am_S) : Option (Option Value × am_S) := match code.dropWhile (fun e' => e'.1 != o.1) with
  | [] => none
  | e' :: _ => match e'.2.1, o.2.1 with
    | .ireturn, [.int v] => if e'.2.2.2.2.1 = 0 ∨ v = 0 ∨ v = 1 then some (some (.int v), o.2.2) else none
    | .areturn, [.ref a] => some (some (.ref a), o.2.2)
    | .areturn, [.null] => some (some .null, o.2.2)
    | .return_, [] => some (none, o.2.2)
    | _, _ => none
/-- a method of the table at its arguments: d calls deep at most, f stretches long at most in each -/
def am_call (B : Nat) (sa : Nat → Nat) (dfl : Nat → List Value) (tb : Nat → Option am_M) (f : Nat) : Nat → am_F
  | 0, _, _, _ => none
  | d + 1, mi, as, σ => (tb mi).bind fun M => if M.2.2.1 < (lg_sl as).length then none else (am_exec B sa dfl (am_call B sa dfl tb f d) M.2.2.2.2 f 0 (lv_args 0 as) [] σ).bind fun o => am_end M.2.2.2.2 o
end
section
/-! what the abstract machine's states are in the machine's heap -/
def am_at (D : va_G) (B : Nat) (U : State) (a : Nat) (c : am_C) (H : Heap) : Prop := match c with
  | .inl x => (B ≤ a ∧ ∃ cA : ClassId, ArrOfT U cA .int ∧ H[a]? = some (vp_cell cA (x.1, .inl x.2))) ∨
      (a < B ∧ ∃ cell : Cell, H[a]? = some cell ∧ U.isArrayOf cell .int ∧ cell.vm ≠ .unknown ∧ x.1 ≤ cell.slots.size ∧ cell.slots.size.toInt32 = Int32.ofNat x.1 ∧ ∀ j, j < x.1 → cell.slots[j]? = some (.int (x.2 j)))
  | .inr o => ∃ r : vw_C, vwCl[o.1]? = some r ∧ o.2.length = r.2.2 ∧ t_OB a (D.1 o.1) r.2.2 (D.2 o.1) H (vp_V o.2)
theorem am_at.kept {D : va_G} {B a : Nat} {U : State} {c : am_C} {H H1 : Heap} (h : am_at D B U a c H) (hq : H1[a]? = H[a]?) : am_at D B U a c H1 := by
  cases c with
  | inl x =>
    rcases h with ⟨h1, cA, h2, h3⟩ | ⟨h1, cell, h2, h3⟩
    · exact Or.inl ⟨h1, cA, h2, by rw [hq]; exact h3⟩
    · exact Or.inr ⟨h1, cell, by rw [hq]; exact h2, h3⟩
  | inr o =>
    obtain ⟨r, h1, h2, cell, h3, h4⟩ := h
    exact ⟨r, h1, h2, cell, by rw [hq]; exact h3, h4⟩
theorem am_at.moved {D : va_G} {B a : Nat} {u U : State} {c : am_C} {H : Heap} (hvm : u.vm.Alike U.vm) (h : am_at D B u a c H) : am_at D B U a c H := by
  cases c with
  | inl x =>
    rcases h with ⟨h1, cA, h2, h3⟩ | ⟨h1, cell, h2, h3, h4⟩
    · exact Or.inl ⟨h1, cA, arrOfT_moved hvm h2, h3⟩
    · exact Or.inr ⟨h1, cell, h2, State.isArrayOf_alike hvm h3, h4⟩
  | inr o => exact h
theorem am_at.lt {D : va_G} {B a : Nat} {U : State} {c : am_C} {H : Heap} (h : am_at D B U a c H) : a < H.size := by
  cases c with
  | inl x =>
    rcases h with ⟨h1, cA, h2, h3⟩ | ⟨h1, cell, h2, h3, h4⟩
    · exact (Array.getElem?_eq_some_iff.mp h3).1
    · exact (Array.getElem?_eq_some_iff.mp h2).1
  | inr o =>
    obtain ⟨r, h1, h2, cell, h3, h4⟩ := h
    exact (Array.getElem?_eq_some_iff.mp h3).1
def am_R (D : va_G) (B : Nat) (U : State) (σ : am_S) (H : Heap) : Prop := H.size = σ.1 ∧ B ≤ σ.1 ∧ ∀ (a : Nat) (c : am_C), σ.2.1 a = some c → am_at D B U a c H
theorem am_R.moved {D : va_G} {B : Nat} {u U : State} {σ : am_S} {H : Heap} (hvm : u.vm.Alike U.vm) (h : am_R D B u σ H) : am_R D B U σ H := ⟨h.1, h.2.1, fun a c hc => (h.2.2 a c hc).moved hvm⟩
theorem am_R.set {D : va_G} {B a n : Nat} {U : State} {σ : am_S} {H H1 : Heap} {c : am_C} (h : am_R D B U σ H) (z : H1.size = H.size) (oq : ∀ q : Nat, q ≠ a → H1[q]? = H[q]?) (ha : am_at D B U a c H1) : am_R D B U (σ.1, am_upd σ.2.1 a c, n) H1 := by
  refine ⟨z.trans h.1, h.2.1, fun q x hx => ?_⟩
  by_cases e : q = a
  · subst e
    simp only [am_upd, if_true] at hx
    cases hx
    exact ha
  · simp only [am_upd, if_neg e] at hx
    exact (h.2.2 q x hx).kept (oq q e)
theorem am_R.push {D : va_G} {B n : Nat} {U : State} {σ : am_S} {H H1 : Heap} {c : am_C} (h : am_R D B U σ H) (z : H1.size = H.size + 1) (oq : ∀ q : Nat, q < H.size → H1[q]? = H[q]?) (ha : am_at D B U H.size c H1) : am_R D B U (σ.1 + 1, am_upd σ.2.1 σ.1 c, n) H1 := by
  refine ⟨by rw [z, h.1], Nat.le_succ_of_le h.2.1, fun q x hx => ?_⟩
  by_cases e : q = σ.1
  · subst e
    simp only [am_upd, if_true] at hx
    cases hx
    rw [← h.1]
    exact ha
  · simp only [am_upd, if_neg e] at hx
    have h1 := h.2.2 q x hx
    exact h1.kept (oq q h1.lt)
/-- what a method takes as given beside its cells -/
def am_K (D : va_G) (B : Nat) (sa : Nat → Nat) (U : State) : Prop := va_K D vwCl [] U ∧ (∀ q ∈ am_NF, va_Nw (.fieldLinkNest q.1 q.2.1 q.2.2.1 q.2.2.2.1 q.2.2.2.2.1 q.2.2.2.2.2) U) ∧ (∀ q ∈ am_NM, va_Nw (.methodLinkNest q.1 q.2.1 q.2.2.1 q.2.2.2) U) ∧ ∀ (j : Nat) (q : String × String × String), am_SF j = some q → va_Z q.1 q.2.1 q.2.2 (.ref (sa j)) (fun a => B ≤ a) U U.heap
theorem am_K.same {D : va_G} {B : Nat} {sa : Nat → Nat} {u U : State} (h : u.vm = U.vm) (hh : u.heap = U.heap) (hK : am_K D B sa u) : am_K D B sa U := by
  have hal : u.vm.Alike U.vm := h ▸ Vm.Alike.refl _
  refine ⟨hK.1.moved hal, fun q hq => va_Nw.same rfl h (hK.2.1 q hq), fun q hq => va_Nw.same rfl h (hK.2.2.1 q hq), fun j q hj => ?_⟩
  have := (hK.2.2.2 j q hj).moved hal
  rw [hh] at this
  exact this
theorem am_K.warm {D : va_G} {B : Nat} {sa : Nat → Nat} {s U : State} {H : Heap} {locs : List Loc} (hU : U.heap = H) (hW : s.WarmedH U.vm) (hS : va_S (fun q => B ≤ q) s.heap H locs) (hK : am_K D B sa s) : am_K D B sa U := by
  refine ⟨hK.1.moved hW.alike, fun q hq => va_Nw.warmF hW (hK.2.1 q hq), fun q hq => va_Nw.warmM hW (hK.2.2.1 q hq), fun j q hj => ?_⟩
  rw [hU]
  exact ((hK.2.2.2 j q hj).moved hW.alike).kept hS.2.1
def am_Pre (D : va_G) (B : Nat) (sa : Nat → Nat) (σ : am_S) (U : State) : Prop := am_R D B U σ U.heap ∧ am_K D B sa U
def am_Post (D : va_G) (B : Nat) (σ : am_S) (v : Option Value) : Array Value → State → Outcome → State → Prop := fun _ st oc t => oc = .returned v ∧ am_R D B t σ t.heap ∧ va_F (fun q => B ≤ q) st t
theorem am_blind {D : va_G} {B : Nat} {sa : Nat → Nat} {σ : am_S} {as : List Value} : FrameBlind (va_Pc as (am_Pre D B sa σ)) := by
  intro a U g mk h
  exact ⟨h.1, am_R.moved (Vm.Alike.refl U.vm) h.2.1, am_K.same (u := U) rfl rfl h.2.2⟩
theorem am_pre_at {D : va_G} {B : Nat} {sa : Nat → Nat} {σ : am_S} {s U : State} {H : Heap} {locs : List Loc} (hR : am_R D B s σ H) (hK : am_K D B sa s) (hS : va_S (fun q => B ≤ q) s.heap H locs) (hU : U.heap = H) (hW : s.WarmedH U.vm) : am_Pre D B sa σ U := ⟨by rw [hU]; exact hR.moved hW.alike, hK.warm hU hW hS⟩
theorem am_cls {x : Nat} {q : vw_C} (h : vwCl[x]? = some q) : (∀ w ∈ u_ws q.1 q.2.1 q.2.2, w ∈ am_W) ∧ (∃ ty : Nat → FieldType, ∀ k, k < q.2.2 → parseFieldDescriptor (q.2.1 k).2.2.1 = some (ty k)) ∧ (∀ a, a < q.2.2 → ∀ b, b < q.2.2 → a ≠ b → (q.2.1 a).2.1 ≠ (q.2.1 b).2.1) := by
  match x, h with
  | 0, h => cases h; exact ⟨am_in0, ⟨_, tyX0_ok⟩, nmX0⟩
  | 1, h => cases h; exact ⟨am_in1, ⟨_, tyX1_ok⟩, nmX1⟩
  | 2, h => cases h; exact ⟨am_in2, ⟨_, tyX2_ok⟩, nmX2⟩
  | 3, h => cases h; exact ⟨am_in3, ⟨_, tyX3_ok⟩, nmX3⟩
  | 4, h => cases h; exact ⟨am_in4, ⟨_, tyX4_ok⟩, nmX4⟩
  | 5, h => cases h; exact ⟨am_in5, ⟨_, tyX5_ok⟩, nmX5⟩
  | 6, h => cases h; exact ⟨am_in6, ⟨_, tyX6_ok⟩, nmX6⟩
  | 7, h => cases h; exact ⟨am_in7, ⟨_, tyX7_ok⟩, nmX7⟩
  | 8, h => cases h; exact ⟨am_in8, ⟨_, tyX8_ok⟩, nmX8⟩
  | 9, h => cases h; exact ⟨am_in9, ⟨_, tyX9_ok⟩, nmX9⟩
  | k + 10, h => simp [vwCl] at h
section AMR
variable {p : Program} {l : Launch} {e : Env} {R : Room} {s : State} {m : MethodId} {args : Array Value} {below : List Frame} {meth : Method} {c : Code} {H : Heap} {locs : List Loc} {cells slots : Nat} {Q : State → Prop}
variable {cc : ByteArray} {pc : Nat} {ls : Array Slot} {rest : List Value} {D : va_G} {B : Nat} {a : Nat} {σ : am_S} {own : String}
theorem am_objat (hR : am_R D B s σ H) {ci : Nat} {fs : List Value} (ho : am_obj σ a ci = some fs) : ∃ r : vw_C, vwCl[ci]? = some r ∧ fs.length = r.2.2 ∧ t_OB a (D.1 ci) r.2.2 (D.2 ci) H (vp_V fs) := by
  unfold am_obj at ho
  split at ho
  · rename_i x hx
    split at ho
    · rename_i hc
      cases ho
      have := hR.2.2 a _ hx
      rw [← hc]
      exact this
    · cases ho
  · cases ho
theorem am_arrat (hR : am_R D B s σ H) {x : Nat × (Nat → Int32)} (ho : am_arr σ a = some x) : am_at D B s a (.inl x) H := by
  unfold am_arr at ho
  split at ho
  · rename_i y hy
    cases ho
    exact hR.2.2 a _ hy
  · cases ho
/-- any field of an object -/
theorem am_w_get (hexec : p.tables.exec = Jvm.exec) (hb : c.code = cc) (hts : ∀ w ∈ am_W, w.before args s = true) (hown : s.vm.findClass own = some m.cls) (hK : va_K D vwCl [] s) (hR : am_R D B s σ H) {ci k index : Nat} {fs : List Value} {v : Value} {q : vw_C} (ho : am_obj σ a ci = some fs) (hv : fs[k]? = some v) (hc : vwCl[ci]? = some q) (hk : k < q.2.2)
    (hlink : Cond.fieldLink own index (q.2.1 k).1 (q.2.1 k).2.1 (q.2.1 k).2.2.1 ∈ am_W ∨ ∃ host, va_Nw (.fieldLinkNest own index (q.2.1 k).1 (q.2.1 k).2.1 (q.2.1 k).2.2.1 host) s) (hdg : decode cc pc = .ok (.getfield index, 3))
    (kk : W p l e R s m args below meth c H locs cells slots Q (F0 m (pc + 3) ls (v :: rest))) : W p l e R s m args below meth c H locs cells slots Q (F0 m pc ls (.ref a :: rest)) := by
  obtain ⟨r, h1, h2, cell, q1, q2, q3, q4⟩ := am_objat hR ho
  cases h1.symm.trans hc
  obtain ⟨hin, -, -⟩ := am_cls hc
  obtain ⟨hS, hfc, kC, hkC, hkind⟩ := hK.1 ci _ hc
  obtain ⟨cf, kf, fi, f, hi, hsl⟩ := hS k hk
  have hval : cell.slots[f.slot]? = some v := by
    rw [hsl, q4 k hk]
    simp [vp_V, hv]
  rcases hlink with hl | ⟨host, hl⟩
  · exact W.getf hexec hb hown (hts _ hl) hi (u_facts hfc hkC (u_lays hts hin hk) hi).1 q1 (by rw [q3]; exact fun h => by cases h) hval rfl rfl hdg kk
  · exact va_Wgetf hexec hb hown (va_Nw.use rfl hl) hi (u_facts hfc hkC (u_lays hts hin hk) hi).1 q1 (by rw [q3]; exact fun h => by cases h) hval rfl rfl hdg kk
/-- a store into a field -/
theorem am_w_put (hexec : p.tables.exec = Jvm.exec) (hb : c.code = cc) (hts : ∀ w ∈ am_W, w.before args s = true) (hown : s.vm.findClass own = some m.cls) (hK : va_K D vwCl [] s) (hR : am_R D B s σ H) (hS0 : va_S (fun q => B ≤ q) s.heap H locs) {ci k index : Nat} {fs : List Value} {v : Value} {q : vw_C} {ty : FieldType} (ho : am_obj σ a ci = some fs) (hBa : B ≤ a) (hk : k < fs.length) (hc : vwCl[ci]? = some q)
    (hd : parseFieldDescriptor (q.2.1 k).2.2.1 = some ty) (hn : narrow ty v = v) (hfit : fits ty v = true)
    (hlink : ((q.2.1 k).2.2.2 = false ∧ (Cond.fieldLink own index (q.2.1 k).1 (q.2.1 k).2.1 (q.2.1 k).2.2.1 ∈ am_W ∨ ∃ host, va_Nw (.fieldLinkNest own index (q.2.1 k).1 (q.2.1 k).2.1 (q.2.1 k).2.2.1 host) s)) ∨ ((q.2.1 k).2.2.2 = true ∧ meth.name = "<init>" ∧ (q.2.1 k).1 = own ∧ Cond.fieldLink own index (q.2.1 k).1 (q.2.1 k).2.1 (q.2.1 k).2.2.1 ∈ am_W))
    (hdg : decode cc pc = .ok (.putfield index, 3))
    (kk : ∀ (H1 : Heap) (locs1 : List Loc), am_R D B s (σ.1, am_upd σ.2.1 a (.inr (ci, fs.set k v)), σ.2.2) H1 → va_S (fun q => B ≤ q) s.heap H1 locs1 → W p l e R s m args below meth c H1 locs1 cells slots Q (F0 m (pc + 3) ls rest)) : W p l e R s m args below meth c H locs cells slots Q (F0 m pc ls (v :: .ref a :: rest)) := by
  obtain ⟨r, h1, h2, cell, q1, q2, q3, q4⟩ := am_objat hR ho
  cases h1.symm.trans hc
  obtain ⟨hin, ⟨ty0, hty⟩, hnm⟩ := am_cls hc
  have hkN : k < q.2.2 := by rw [← h2]; exact hk
  have hap := va_apart (own := own) (D := D) hts hin ty0 hty hnm hK hc
  obtain ⟨hS, hfc, kC, hkC, hkind⟩ := hK.1 ci _ hc
  obtain ⟨cf, kf, fi, f, hi, hsl⟩ := hS k hkN
  have hlay := hts _ (hin _ (u_in_lay hkN))
  unfold u_lay at hlay
  have hst := (u_facts hfc hkC (u_lays hts hin hkN) hi).1
  have fin : ∀ (H' : Heap), H'[a]? = some (cell.setSlot f.slot v) → H'.size = H.size → (∀ q : Nat, q ≠ a → H'[q]? = H[q]?) → W p l e R s m args below meth c H' (locs ++ [⟨a, f.slot⟩]) cells slots Q (F0 m (pc + 3) ls rest) := by
    intro H' e1 e2 e3
    rw [hsl] at e1 ⊢
    refine kk H' _ (hR.set e2 e3 ⟨_, hc, by rw [List.length_set]; exact h2, ?_⟩) (hS0.put e2 e3 hBa)
    exact t_OB.to (V := updV (vp_V fs) k v) ⟨_, e1, q2, q3, t_set q4 hap hkN v⟩ (fun j _ => vp_updV_set hk v j)
  rcases hlink with ⟨hf, hl⟩ | ⟨hf, hin2, hdecl, hl⟩
  · rw [if_neg (by rw [hf]; decide)] at hlay
    have h6 := u_store hfc hkC hkind hlay hi hd hn hfit
    rcases hl with hl | ⟨host, hl⟩
    · exact W.putK hexec hb (f := f) ⟨hown, hts _ hl, ⟨_, _, _, hi⟩, hst⟩ (by rw [q2]; exact h6) q1 q3 (by rw [hsl]; exact k2_hasslot (q4 k hkN)) rfl rfl hdg fin
    · exact va_WputK hexec hb hown (va_Nw.use rfl hl) hi hst (by rw [q2]; exact h6) q1 q3 (by rw [hsl]; exact k2_hasslot (q4 k hkN)) rfl rfl hdg fin
  · rw [if_pos hf] at hlay
    have hcf : m.cls = cf := by
      obtain ⟨_, _, c', _, _, _, -, -, hf', -, -, -, hown2, -⟩ := Cond.laysFinal_spec hlay
      have e1 : c' = cf := by have := hi.symm.trans hf'; simp at this; exact this.1.symm
      rw [hdecl] at hown2
      rw [← e1]; exact Option.some.inj (hown.symm.trans hown2)
    have h6 := u_fits hfc hkC hkind (Or.inr hlay) hi hd hn hfit
    exact W.putFinK hexec hb hown (hts _ hl) hi hst hcf hin2 (by rw [q2]; exact h6) q1 q3 (by rw [hsl]; exact k2_hasslot (q4 k hkN)) rfl rfl hdg fin
theorem am_w_iald (hexec : p.tables.exec = Jvm.exec) (hb : c.code = cc) (hR : am_R D B s σ H) {x : Nat × (Nat → Int32)} (ho : am_arr σ a = some x) {i : Int32} (hin : ¬ (i < 0 ∨ x.1 ≤ i.toNatClampNeg)) (hdg : decode cc pc = .ok (.iaload, 1))
    (kk : W p l e R s m args below meth c H locs cells slots Q (F0 m (pc + 1) ls (.int (x.2 i.toNatClampNeg) :: rest))) : W p l e R s m args below meth c H locs cells slots Q (F0 m pc ls (.int i :: .ref a :: rest)) := by
  have hlt : i.toNatClampNeg < x.1 := Nat.not_le.mp fun q => hin (Or.inr q)
  rcases am_arrat hR ho with ⟨h1, cA, h2, h3⟩ | ⟨h1, cell, h2, h3, h4, h5, h6, h7⟩
  · exact W.iald (v := .int (x.2 i.toNatClampNeg)) hexec hb h3 (h2 x.1 (fun j => .int (x.2 j))) (fun q => by cases q) (by show ¬ (i < 0 ∨ (arrV _ _ _).slots.size ≤ _); rw [arrV_size]; exact hin) (by show (arrV _ _ _).slots[_]? = _; rw [arrV_read _ _ hlt]) rfl rfl hdg kk
  · exact W.iald (v := .int (x.2 i.toNatClampNeg)) hexec hb h2 h3 h4 (fun h => h.elim (fun z => hin (Or.inl z)) (fun z => by omega)) (h7 _ hlt) rfl rfl hdg kk
theorem am_w_alen (hexec : p.tables.exec = Jvm.exec) (hb : c.code = cc) (hR : am_R D B s σ H) {x : Nat × (Nat → Int32)} (ho : am_arr σ a = some x) (hdg : decode cc pc = .ok (.arraylength, 1))
    (kk : W p l e R s m args below meth c H locs cells slots Q (F0 m (pc + 1) ls (.int (Int32.ofNat x.1) :: rest))) : W p l e R s m args below meth c H locs cells slots Q (F0 m pc ls (.ref a :: rest)) := by
  rcases am_arrat hR ho with ⟨h1, cA, h2, h3⟩ | ⟨h1, cell, h2, h3, h4, h5, h6, h7⟩
  · exact W.alen (n := Int32.ofNat x.1) hexec hb h3 (h2 x.1 (fun j => .int (x.2 j))) (by rw [vp_cell_i, arrV_size] <;> rfl) rfl rfl hdg kk
  · exact W.alen (n := Int32.ofNat x.1) hexec hb h2 h3 h6 rfl rfl hdg kk
theorem am_w_iast (hexec : p.tables.exec = Jvm.exec) (hb : c.code = cc) (hR : am_R D B s σ H) (hS : va_S (fun q => B ≤ q) s.heap H locs) {y : Nat × (Nat → Int32)} (ho : am_arr σ a = some y) (hBa : B ≤ a) {i x : Int32} (hin : ¬ (i < 0 ∨ y.1 ≤ i.toNatClampNeg)) (hdg : decode cc pc = .ok (.iastore, 1))
    (kk : ∀ (H1 : Heap) (locs1 : List Loc), am_R D B s (σ.1, am_upd σ.2.1 a (.inl (y.1, upd y.2 i.toNatClampNeg x)), σ.2.2) H1 → va_S (fun q => B ≤ q) s.heap H1 locs1 → W p l e R s m args below meth c H1 locs1 cells slots Q (F0 m (pc + 1) ls rest)) : W p l e R s m args below meth c H locs cells slots Q (F0 m pc ls (.int x :: .int i :: .ref a :: rest)) := by
  rcases am_arrat hR ho with ⟨h1, cA, h2, h3⟩ | ⟨h1, -⟩
  · refine W.iast hexec hb h3 (h2 y.1 (fun j => .int (y.2 j))) (fun q => by cases q) (by show ¬ (i < 0 ∨ (arrV _ _ _).slots.size ≤ _); rw [arrV_size]; exact hin) rfl rfl hdg fun H1 e z oq => ?_
    refine kk H1 _ (hR.set z oq (Or.inl ⟨h1, cA, h2, ?_⟩)) (hS.put z oq hBa)
    rw [e]
    rw [vp_cell_i, vp_cell_i, arrV_store]
    congr 2
    funext q
    by_cases hq : q = i.toNatClampNeg
    · subst hq
      simp [updV, upd]
    · simp [updV, upd, hq]
  · omega
theorem am_w_newa (hexec : p.tables.exec = Jvm.exec) (hb : c.code = cc) (hts : ∀ w ∈ am_W, w.before args s = true) (harr : Cond.arrayClass .int ∈ am_W) (hR : am_R D B s σ H) (hS : va_S (fun q => B ≤ q) s.heap H locs) {n : Int32} (hn : ¬ n < 0) (hn2 : n.toNatClampNeg ≤ 100000) (hcells : cells + 1 ≤ R.cells) (hslots : slots + n.toNatClampNeg ≤ R.slots) (hdg : decode cc pc = .ok (.newarray .int, 2))
    (kk : ∀ (H1 : Heap) (locs1 : List Loc), am_R D B s (am_nwa σ n.toNatClampNeg) H1 → va_S (fun q => B ≤ q) s.heap H1 locs1 → W p l e R s m args below meth c H1 locs1 (cells + 1) (slots + n.toNatClampNeg) Q (F0 m (pc + 2) ls (.ref σ.1 :: rest))) : W p l e R s m args below meth c H locs cells slots Q (F0 m pc ls (.int n :: rest)) := by
  refine va_newaK hexec hb (atype := .int) (hts _ harr) rfl hdg rfl hn rfl (by show n.toNatClampNeg * componentBytes .int ≤ 536870912; simp [componentBytes]; omega) hcells hslots hR.1 fun H1 cA e1 z1 o1 hAr hNm => ?_
  refine kk H1 locs (hR.push (by rw [z1, hR.1]) (fun q hq => o1 q (by rw [← hR.1]; exact hq)) (Or.inl ⟨by rw [hR.1]; exact hR.2.1, cA, hAr, by rw [hR.1]; exact e1⟩)) ⟨by have := hS.1; rw [hR.1] at this; omega, fun x h1 h2 => (o1 x (by have := hS.1; rw [hR.1] at this; omega)).trans (hS.2.1 x h1 h2), hS.2.2⟩
theorem am_w_new (hexec : p.tables.exec = Jvm.exec) (hb : c.code = cc) (hts : ∀ w ∈ am_W, w.before args s = true) (hown : s.vm.findClass own = some m.cls) (hK : va_K D vwCl [] s) (hR : am_R D B s σ H) (hS : va_S (fun q => B ≤ q) s.heap H locs) {ci index : Nat} {q : vw_C} {fs : List Value} (hc : vwCl[ci]? = some q) (hcl : Cond.classLink own index q.1 ∈ am_W) (hinst : Cond.instantiable q.1 q.2.2 ∈ am_W) (hini : Cond.initialized q.1 ∈ am_W)
    (hlen : fs.length = q.2.2) (hfs : ∀ j, j < q.2.2 → (parseFieldDescriptor (q.2.1 j).2.2.1).map defaultValue = some (vp_V fs j)) (hcells : cells + 1 ≤ R.cells) (hslots : slots + fs.length ≤ R.slots) (hdg : decode cc pc = .ok (.new index, 3))
    (kk : ∀ (H1 : Heap) (locs1 : List Loc), am_R D B s (am_new σ ci fs) H1 → va_S (fun q => B ≤ q) s.heap H1 locs1 → W p l e R s m args below meth c H1 locs1 (cells + 1) (slots + fs.length) Q (F0 m (pc + 3) ls (.ref σ.1 :: rest))) : W p l e R s m args below meth c H locs cells slots Q (F0 m pc ls rest) := by
  have hKn := hK.1 ci _ hc
  obtain ⟨hin, ⟨ty, hty⟩, -⟩ := am_cls hc
  rw [hlen] at hslots kk
  refine W.newcK hexec hb hown (hts _ hcl) (hts _ hinst) (hts _ hini) rfl hdg hcells hslots hKn.2.1 hR.1 fun H1 kC hkC e1 z1 o1 => ?_
  refine kk H1 locs (hR.push (by rw [z1, hR.1]) (fun q hq => o1 q (by rw [← hR.1]; exact hq)) ⟨q, hc, hlen, ?_⟩) ⟨by have := hS.1; rw [hR.1] at this; omega, fun x h1 h2 => (o1 x (by have := hS.1; rw [hR.1] at this; omega)).trans (hS.2.1 x h1 h2), hS.2.2⟩
  rw [hR.1]
  refine (u_born ty hts hin hKn hkC e1 hty).to fun j hj => ?_
  have := hfs j hj
  rw [hty j hj] at this
  exact Option.some.inj this
end AMR
end
section
/-! arraycopy, and calls -/
section AMC
variable {p : Program} {l : Launch} {e : Env} {R : Room} {s : State} {m : MethodId} {args : Array Value} {below : List Frame} {meth : Method} {c : Code} {H : Heap} {locs : List Loc} {cells slots : Nat} {Q : State → Prop}
variable {cc : ByteArray} {pc : Nat} {ls : Array Slot} {rest st0 : List Value} {D : va_G} {B : Nat} {sa : Nat → Nat} {a a0 : Nat} {σ σ' : am_S} {own : String}
theorem am_w_cpy (hexec : p.tables.exec = Jvm.exec) (hb : c.code = cc) (hml : c.maxLocals = ls.size) {index : Nat} (hown : s.vm.findClass own = some m.cls) (hts : ∀ w ∈ am_W, w.before args s = true) (hlink : Cond.methodLink own index arraycopyName ∈ am_W) (hnat : Cond.native arraycopyName ∈ am_W) (hstat : Cond.static arraycopyName ∈ am_W) (hini : Cond.initialized "java/lang/System" ∈ am_W)
    (hR : am_R D B s σ H) (hS : va_S (fun q => B ≤ q) s.heap H locs) {x y : Nat × (Nat → Int32)} (ho : am_arr σ a0 = some x) (ho2 : am_arr σ a = some y) (hB0 : B ≤ a0) (hBa : B ≤ a)
    {sp dp n : Int32} (h1 : ¬ sp < 0) (h2 : ¬ dp < 0) (h3 : ¬ n < 0) (h4 : sp.toNatClampNeg + n.toNatClampNeg ≤ x.1) (h5 : dp.toNatClampNeg + n.toNatClampNeg ≤ y.1)
    (hframes : 1 ≤ R.frames) (hlocals : (rest.map fun v => v.category).sum + (nativeFrameWords "java/lang/System" "arraycopy" 5 + 11) ≤ R.locals) (hdg : decode cc pc = .ok (.invokestatic index, 3))
    (kk : ∀ (H1 : Heap) (locs1 : List Loc), am_R D B s (σ.1, am_upd σ.2.1 a (.inl (y.1, va_cpy x.2 y.2 sp.toNatClampNeg dp.toNatClampNeg n.toNatClampNeg)), σ.2.2) H1 → va_S (fun q => B ≤ q) s.heap H1 locs1 → W p l e R s m args below meth c H1 locs1 cells slots Q (F0 m (pc + 3) ls rest)) : W p l e R s m args below meth c H locs cells slots Q (F0 m pc ls (.int n :: .int dp :: .ref a :: .int sp :: .ref a0 :: rest)) := by
  have nn : ∀ z : Int32, ¬ z < 0 → z.toInt = (z.toNatClampNeg : Int) := by
    intro z hz
    have hz0 : (0 : Int) ≤ z.toInt := by
      have := Int32.not_lt.mp hz
      simpa using Int32.le_iff_toInt_le.mp this
    show z.toInt = ((z.toInt.toNat : Nat) : Int)
    omega
  obtain ⟨-, c0, g0, hc0⟩ | ⟨g0, -⟩ := am_arrat hR ho
  · obtain ⟨-, c1, g1, hc1⟩ | ⟨g1, -⟩ := am_arrat hR ho2
    · obtain ⟨n0, f⟩ := x
      obtain ⟨n1, g⟩ := y
      intro T hT X
      obtain ⟨-, k0, hk0, cm0, hkk0⟩ := g0 n0 (fun j => .int (f j))
      obtain ⟨-, k1, hk1, cm1, hkk1⟩ := g1 n1 (fun j => .int (g j))
      obtain ⟨vm', X', step⟩ := X.arraycopy hexec hown (hts _ hlink) (hts _ hnat) (hts _ hstat) (hts _ hini) (src := a0) (dst := a) (cs := vp_cell c0 (n0, .inl f)) (cd := vp_cell c1 (n1, .inl g)) (srcPos := sp) (destPos := dp) (n := n) (by rw [hT]; exact hc0) (by rw [hT]; exact hc1)
        (fun _ h => by cases h) (fun _ h => by cases h) (fun h => by cases h) (fun h => by cases h) hk0 hk1 hkk0 hkk1 (by simp [refKind]) h1 h2 h3
        (by rw [nn sp h1, nn n h3]; show ¬ _ > ((arrV c0 n0 (fun j => .int (f j))).slots.size : Int); rw [arrV_size]; dsimp only at h4; omega)
        (by rw [nn dp h2, nn n h3]; show ¬ _ > ((arrV c1 n1 (fun j => .int (g j))).slots.size : Int); rw [arrV_size]; dsimp only at h5; omega)
        (fun vm₁ _ i hi => by
          have e : (vp_cell c0 (n0, .inl f)).slots.getD (sp.toNatClampNeg + i) .null = .int (f (sp.toNatClampNeg + i)) := by
            show (arrV c0 n0 (fun j => .int (f j))).slots.getD _ _ = _
            rw [Array.getD_eq_getD_getElem?, arrV_read _ _ (by dsimp only at h4; omega)]
            rfl
          refine ⟨?_, ?_⟩
          · rw [e]
            rfl
          · rw [e]
            exact trivial)
        (g := F0 m pc ls (.int n :: .int dp :: .ref a :: .int sp :: .ref a0 :: rest)) rfl (by rw [hml]) (rest := rest) rfl (by rw [hb]; exact hdg) hframes (by show 2 * 0 + _ + _ ≤ _; omega)
      have e1 : copied (vp_cell c0 (n0, .inl f)) (vp_cell c1 (n1, .inl g)) sp dp n = vp_cell c1 (n1, .inl (va_cpy f g sp.toNatClampNeg dp.toNatClampNeg n.toNatClampNeg)) := va_copied (fun z => .int z) c0 c1 f g h4
      rw [e1] at X' step
      have hl : a < H.size := (Array.getElem?_eq_some_iff.mp hc1).1
      have hheap : ((T.setVm vm').setCell a (vp_cell c1 (n1, .inl (va_cpy f g sp.toNatClampNeg dp.toNatClampNeg n.toNatClampNeg)))).heap = H.setIfInBounds a (vp_cell c1 (n1, .inl (va_cpy f g sp.toNatClampNeg dp.toNatClampNeg n.toNatClampNeg))) := by rw [← hT]; rfl
      have oq : ∀ q : Nat, q ≠ a → (H.setIfInBounds a (vp_cell c1 (n1, .inl (va_cpy f g sp.toNatClampNeg dp.toNatClampNeg n.toNatClampNeg))))[q]? = H[q]? := fun q hq => by simp [Array.getElem?_setIfInBounds, Ne.symm hq]
      obtain ⟨t, a1, b1⟩ := kk _ _ (hR.set (by simp) oq (Or.inl ⟨hBa, c1, g1, by simp [Array.getElem?_setIfInBounds, hl]⟩)) ⟨by simp; exact hS.1, fun q g1 g2 => by
          rw [oq q (fun e => g2 (by rw [e]; exact hBa))]
          exact hS.2.1 q g1 g2, fun q hq => by
          rcases List.mem_append.mp hq with h | h
          · exact hS.2.2 q h
          · obtain ⟨z, -, hz⟩ := List.mem_map.mp h
            rw [← hz]
            exact hBa⟩ _ hheap X'
      exact ⟨t, step t a1, b1⟩
    · omega
  · omega
/-- behind a call -/
theorem am_w_run {mc ms : Nat} {ar : Array Value} {v : Option Value} (hr : va_Run p l e R s m args below meth c H locs cells slots mc ms (F0 m pc ls st0) rest (am_Post D B σ' v ar) (fun q => B ≤ q)) (hS : va_S (fun q => B ≤ q) s.heap H locs)
    (kk : ∀ (H1 : Heap) (locs1 : List Loc), am_R D B s σ' H1 → va_S (fun q => B ≤ q) s.heap H1 locs1 → W p l e R s m args below meth c H1 locs1 (cells + mc) (slots + ms) Q (F0 m (pc + 3) ls (v.toList ++ rest))) : W p l e R s m args below meth c H locs cells slots Q (F0 m pc ls st0) := by
  intro T hT X
  obtain ⟨v', st₀, t, T', L, h0, X', hL, e1, e2, ⟨ho, hR1, hz, hk⟩, st⟩ := hr T hT X
  cases ho
  rw [h0] at hz hk
  have hal : s.vm.Alike t.vm := by rw [← e2]; exact X'.warmed.alike
  obtain ⟨t2, a1, b1⟩ := kk T'.heap (locs ++ L) (by rw [e1]; exact hR1.moved hal.symm)
    ⟨Nat.le_trans hS.1 (by rw [e1]; exact hz), fun q h1 h2 => by rw [e1, hk q (Nat.lt_of_lt_of_le h1 hS.1) h2]; exact hS.2.1 q h1 h2, fun q hq => by
      rcases List.mem_append.mp hq with h | h
      · exact hS.2.2 q h
      · exact hL q h⟩ T' rfl X'
  exact ⟨t2, st t2 a1, b1⟩
/-- what a method of the table does at its arguments, d calls deep -/
def am_Ct (l : Launch) (D : va_G) (B : Nat) (sa : Nat → Nat) (M : am_M) (d : Nat) (as : List Value) (σ : am_S) (v : Option Value) (σ' : am_S) : Prop :=
  Met l M.1 (.code M.1 M.2.1 M.2.2.1 M.2.2.2.1 :: am_W) { frames := d, cells := σ'.1 - σ.1, slots := σ'.2.2 - σ.2.2, locals := 64 * d } (va_Pc as (am_Pre D B sa σ)) (am_Post D B σ' v) (σ'.1 - σ.1) (σ'.2.2 - σ.2.2) (fun q => B ≤ q)
/-- what a callee needs of the tables -/
def am_callee (M : am_M) (n : Nat) : Prop := Cond.code M.1 M.2.1 M.2.2.1 M.2.2.2.1 ∈ am_W ∧ Cond.initialized M.1.cls ∈ am_W ∧ (M.1.cls ≠ "java/lang/invoke/MethodHandle" ∧ M.1.cls ≠ "java/lang/invoke/VarHandle" ∧ (parseMethodDescriptor M.1.desc).map (fun d => d.parameters.length) = some n) ∧ M.2.2.1 ≤ 40
theorem am_goodIn {M : am_M} {n : Nat} (h : am_callee M n) : GoodIn am_W (.code M.1 M.2.1 M.2.2.1 M.2.2.2.1 :: am_W) := by
  intro w hw
  have : w ∈ am_W := by
    rcases List.mem_cons.mp hw with rfl | h1
    · exact h.1
    · exact h1
  exact ⟨this, good_of_word (am_W_good this)⟩
theorem am_w_callV (hexec : p.tables.exec = Jvm.exec) (hb : c.code = cc) {nL : Nat} (hml : c.maxLocals = nL) (hown : s.vm.findClass own = some m.cls) (hts : ∀ w ∈ am_W, w.before args s = true) (hK : am_K D B sa s) (hR : am_R D B s σ H) (hS : va_S (fun q => B ≤ q) s.heap H locs)
    {M : am_M} {n d ci index : Nat} {As fs : List Value} {v : Option Value} {q : vw_C} (hM : am_Ct l D B sa M d (.ref a :: As) σ v σ') (hce : am_callee M n) (ho : am_obj σ a ci = some fs) (hc : vwCl[ci]? = some q) (hcq : q.1 = M.1.cls)
    (hl : Cond.methodLink own index M.1 ∈ am_W) (hin : Cond.instanceMethod M.1 ∈ am_W) (hsel : Cond.selects M.1.cls M.1 M.1 ∈ am_W) (hn : As.length = n) (hsz : ls.size = nL) (hst : st0 = As.reverse ++ .ref a :: rest) (hW : (rest.map fun v => v.category).sum ≤ 8) (hfr : R.frames = d + 1) (hlo : R.locals = 64 * (d + 1))
    (hdg : decode cc pc = .ok (.invokevirtual index, 3)) (hf : cells + (σ'.1 - σ.1) ≤ R.cells ∧ slots + (σ'.2.2 - σ.2.2) ≤ R.slots)
    (kk : ∀ (H1 : Heap) (locs1 : List Loc), am_R D B s σ' H1 → va_S (fun q => B ≤ q) s.heap H1 locs1 → W p l e R s m args below meth c H1 locs1 (cells + (σ'.1 - σ.1)) (slots + (σ'.2.2 - σ.2.2)) Q (F0 m (pc + 3) ls (v.toList ++ rest))) : W p l e R s m args below meth c H locs cells slots Q (F0 m pc ls st0) := by
  obtain ⟨r, h1, h2, cell, q1, q2, q3, q4⟩ := am_objat hR ho
  cases h1.symm.trans hc
  have hKn := (hK.1.1 ci _ hc).2.1
  have hroom : d + 1 ≤ R.frames ∧ 8 + (M.2.2.1 + 11) + 64 * d ≤ R.locals := ⟨by rw [hfr]; exact Nat.le_refl _, by rw [hlo]; have := hce.2.2.2; omega⟩
  refine am_w_run (ar := (Value.ref a :: As).toArray) (va_runV (C := M.1.cls) (b := a) (As := As) (rest := rest) (n := n) ⟨hexec, hb, hml, hown, hts⟩ hM ⟨callB_of n hts (am_goodIn hce) rfl rfl rfl (hts _ hce.2.1) (hts _ hl) hce.2.2.1 hroom, hts _ hin, hts _ hsel⟩ ⟨am_blind, ⟨cell, q1, by rw [q3]; rfl, by rw [← hcq, q2]; exact hKn⟩, fun U hU hWm => ⟨rfl, am_pre_at hR hK hS hU hWm⟩⟩ rfl hn hsz hst (lv_room hW) hdg hf) hS kk
theorem am_w_callS (hexec : p.tables.exec = Jvm.exec) (hb : c.code = cc) {nL : Nat} (hml : c.maxLocals = nL) (hown : s.vm.findClass own = some m.cls) (hts : ∀ w ∈ am_W, w.before args s = true) (hK : am_K D B sa s) (hR : am_R D B s σ H) (hS : va_S (fun q => B ≤ q) s.heap H locs)
    {M : am_M} {n d index : Nat} {As : List Value} {v : Option Value} (hM : am_Ct l D B sa M d As σ v σ') (hce : am_callee M n)
    (hl : Cond.methodLink own index M.1 ∈ am_W ∨ ∃ host, va_Nw (.methodLinkNest own index M.1 host) s) (hst1 : Cond.static M.1 ∈ am_W) (hn : As.length = n) (hsz : ls.size = nL) (hst : st0 = As.reverse ++ rest) (hW : (rest.map fun v => v.category).sum ≤ 8) (hfr : R.frames = d + 1) (hlo : R.locals = 64 * (d + 1))
    (hdg : decode cc pc = .ok (.invokestatic index, 3)) (hf : cells + (σ'.1 - σ.1) ≤ R.cells ∧ slots + (σ'.2.2 - σ.2.2) ≤ R.slots)
    (kk : ∀ (H1 : Heap) (locs1 : List Loc), am_R D B s σ' H1 → va_S (fun q => B ≤ q) s.heap H1 locs1 → W p l e R s m args below meth c H1 locs1 (cells + (σ'.1 - σ.1)) (slots + (σ'.2.2 - σ.2.2)) Q (F0 m (pc + 3) ls (v.toList ++ rest))) : W p l e R s m args below meth c H locs cells slots Q (F0 m pc ls st0) := by
  have hroom : d + 1 ≤ R.frames ∧ 8 + (M.2.2.1 + 11) + 64 * d ≤ R.locals := ⟨by rw [hfr]; exact Nat.le_refl _, by rw [hlo]; have := hce.2.2.2; omega⟩
  rcases hl with hl | ⟨host, hl⟩
  · exact am_w_run (ar := As.toArray) (va_runS (As := As) (rest := rest) (n := n) ⟨hexec, hb, hml, hown, hts⟩ hM ⟨callB_of n hts (am_goodIn hce) rfl rfl rfl (hts _ hce.2.1) (hts _ hl) hce.2.2.1 hroom, hts _ hst1⟩ ⟨am_blind, fun U hU hWm => ⟨rfl, am_pre_at hR hK hS hU hWm⟩⟩ rfl hn hsz hst (lv_room hW) hdg hf) hS kk
  · exact am_w_run (ar := As.toArray) (va_runSN (As := As) (rest := rest) (n := n) ⟨hexec, hb, hml, hown, hts⟩ hM ⟨va_cnB n hts (am_goodIn hce) rfl rfl rfl hl (hts _ hce.2.1) hce.2.2.1 hroom, hts _ hst1, trivial⟩ ⟨am_blind, fun U hU hWm => ⟨rfl, am_pre_at hR hK hS hU hWm⟩⟩ rfl hn hsz hst (lv_room hW) hdg hf) hS kk
theorem am_w_callI (hexec : p.tables.exec = Jvm.exec) (hb : c.code = cc) {nL : Nat} (hml : c.maxLocals = nL) (hown : s.vm.findClass own = some m.cls) (hts : ∀ w ∈ am_W, w.before args s = true) (hK : am_K D B sa s) (hR : am_R D B s σ H) (hS : va_S (fun q => B ≤ q) s.heap H locs)
    {M : am_M} {n d index : Nat} {As : List Value} {v : Option Value} (hM : am_Ct l D B sa M d (.ref a :: As) σ v σ') (hce : am_callee M n) (hret : M.2.2.2.1 = none)
    (hl : Cond.methodLink own index M.1 ∈ am_W) (hin : Cond.instanceMethod M.1 ∈ am_W) (hnm : M.1.name = "<init>") (hn : As.length = n) (hsz : ls.size = nL) (hst : st0 = As.reverse ++ .ref a :: rest) (hW : (rest.map fun v => v.category).sum ≤ 8) (hfr : R.frames = d + 1) (hlo : R.locals = 64 * (d + 1))
    (hdg : decode cc pc = .ok (.invokespecial index, 3)) (hf : cells + (σ'.1 - σ.1) ≤ R.cells ∧ slots + (σ'.2.2 - σ.2.2) ≤ R.slots)
    (kk : ∀ (H1 : Heap) (locs1 : List Loc), am_R D B s σ' H1 → va_S (fun q => B ≤ q) s.heap H1 locs1 → W p l e R s m args below meth c H1 locs1 (cells + (σ'.1 - σ.1)) (slots + (σ'.2.2 - σ.2.2)) Q (F0 m (pc + 3) ls (v.toList ++ rest))) : W p l e R s m args below meth c H locs cells slots Q (F0 m pc ls st0) := by
  have hroom : d + 1 ≤ R.frames ∧ 8 + (M.2.2.1 + 11) + 64 * d ≤ R.locals := ⟨by rw [hfr]; exact Nat.le_refl _, by rw [hlo]; have := hce.2.2.2; omega⟩
  have hg := am_goodIn hce
  unfold am_Ct at hM
  rw [hret] at hM hg
  exact am_w_run (ar := (Value.ref a :: As).toArray) (va_runI (b := a) (As := As) (rest := rest) (n := n) ⟨hexec, hb, hml, hown, hts⟩ hM (cwI n hts hg rfl rfl rfl (hts _ hce.2.1) (hts _ hl) (hts _ hin) hnm hce.2.2.1 hroom) ⟨am_blind, fun U hU hWm => ⟨rfl, am_pre_at hR hK hS hU hWm⟩⟩ rfl hn hsz hst (lv_room hW) hdg hf) hS kk
end AMC
end
section
/-! one row of the abstract machine is one instruction of the machine -/
/-- what is checked of a row -/
def am_good (tb : Nat → Option am_M) (own nm : String) (nL : Nat) (cc : ByteArray) (r : am_I) : Prop :=
  decode cc r.1 = .ok (r.2.1, r.2.2.1) ∧ match r.2.1 with
  | .bipush _ => r.2.2.1 = 2
  | .iload _ => r.2.2.1 = 2
  | .aload _ => r.2.2.1 = 2
  | .sipush _ => r.2.2.1 = 3
  | .istore_n k => r.2.2.1 = 1 ∧ k.val < nL
  | .astore_n k => r.2.2.1 = 1 ∧ k.val < nL
  | .istore k => r.2.2.1 = 2 ∧ k < nL
  | .astore k => r.2.2.1 = 2 ∧ k < nL
  | .iinc k _ => r.2.2.1 = 3 ∧ k < nL
  | .ldc i => r.2.2.1 = 2 ∧ Cond.constant own i (Int32.ofNat r.2.2.2.2.1) ∈ am_W
  | .ldc_w i => r.2.2.1 = 3 ∧ Cond.constant own i (Int32.ofNat r.2.2.2.2.1) ∈ am_W
  | .goto o => r.2.2.1 = 3 ∧ (r.1 : Int) + o = (r.2.2.2.2.1 : Int)
  | .if_icmp _ o => r.2.2.1 = 3 ∧ (r.1 : Int) + o = (r.2.2.2.2.1 : Int)
  | .ifCond _ o => r.2.2.1 = 3 ∧ (r.1 : Int) + o = (r.2.2.2.2.1 : Int)
  | .ifnull o => r.2.2.1 = 3 ∧ (r.1 : Int) + o = (r.2.2.2.2.1 : Int)
  | .ifnonnull o => r.2.2.1 = 3 ∧ (r.1 : Int) + o = (r.2.2.2.2.1 : Int)
  | .tableswitch dflt lo hi offs => hi = lo + offs.size - 1 ∧ 0 ≤ (r.1 : Int) + dflt ∧ ∀ o ∈ offs.toList, 0 ≤ (r.1 : Int) + o
  | .getfield i => r.2.2.1 = 3 ∧ ∃ q : vw_C, vwCl[r.2.2.2.2.1]? = some q ∧ r.2.2.2.2.2.1 < q.2.2 ∧ (Cond.fieldLink own i (q.2.1 r.2.2.2.2.2.1).1 (q.2.1 r.2.2.2.2.2.1).2.1 (q.2.1 r.2.2.2.2.2.1).2.2.1 ∈ am_W ∨ ∃ host, (own, i, (q.2.1 r.2.2.2.2.2.1).1, (q.2.1 r.2.2.2.2.2.1).2.1, (q.2.1 r.2.2.2.2.2.1).2.2.1, host) ∈ am_NF)
  | .putfield i => r.2.2.1 = 3 ∧ ∃ (q : vw_C) (ty : FieldType), vwCl[r.2.2.2.2.1]? = some q ∧ parseFieldDescriptor (q.2.1 r.2.2.2.2.2.1).2.2.1 = some ty ∧ (r.2.2.2.2.2.2 % 3 = 0 → ty = .int) ∧ (r.2.2.2.2.2.2 % 3 = 2 → ty = .boolean) ∧ (r.2.2.2.2.2.2 % 3 = 1 → (∃ n, ty = .object n) ∨ ∃ t, ty = .array t) ∧
      (((q.2.1 r.2.2.2.2.2.1).2.2.2 = false ∧ (Cond.fieldLink own i (q.2.1 r.2.2.2.2.2.1).1 (q.2.1 r.2.2.2.2.2.1).2.1 (q.2.1 r.2.2.2.2.2.1).2.2.1 ∈ am_W ∨ ∃ host, (own, i, (q.2.1 r.2.2.2.2.2.1).1, (q.2.1 r.2.2.2.2.2.1).2.1, (q.2.1 r.2.2.2.2.2.1).2.2.1, host) ∈ am_NF)) ∨
       ((q.2.1 r.2.2.2.2.2.1).2.2.2 = true ∧ nm = "<init>" ∧ (q.2.1 r.2.2.2.2.2.1).1 = own ∧ Cond.fieldLink own i (q.2.1 r.2.2.2.2.2.1).1 (q.2.1 r.2.2.2.2.2.1).2.1 (q.2.1 r.2.2.2.2.2.1).2.2.1 ∈ am_W))
  | .getstatic i => r.2.2.1 = 3 ∧ ∃ q : String × String × String, am_SF r.2.2.2.2.1 = some q ∧ Cond.fieldLink own i q.1 q.2.1 q.2.2 ∈ am_W
  | .newarray .int => r.2.2.1 = 2 ∧ Cond.arrayClass .int ∈ am_W
  | .new i => r.2.2.1 = 3 ∧ ∃ q : vw_C, vwCl[r.2.2.2.2.1]? = some q ∧ Cond.classLink own i q.1 ∈ am_W ∧ Cond.instantiable q.1 q.2.2 ∈ am_W ∧ Cond.initialized q.1 ∈ am_W ∧ (am_dfl r.2.2.2.2.1).length = q.2.2 ∧ ∀ j, j < q.2.2 → (parseFieldDescriptor (q.2.1 j).2.2.1).map defaultValue = some (vp_V (am_dfl r.2.2.2.2.1) j)
  | .invokespecial i => r.2.2.1 = 3 ∧ (r.2.2.2.2.2.2 = 0 → Cond.methodLink own i objectInit ∈ am_W ∧ Cond.instanceMethod objectInit ∈ am_W ∧ Cond.code objectInit ⟨#[0xb1]⟩ 1 none ∈ am_W) ∧ (r.2.2.2.2.2.2 ≠ 0 → ∃ M, tb r.2.2.2.2.1 = some M ∧ am_callee M r.2.2.2.2.2.1 ∧ M.2.2.2.1 = none ∧ Cond.methodLink own i M.1 ∈ am_W ∧ Cond.instanceMethod M.1 ∈ am_W ∧ M.1.name = "<init>")
  | .invokevirtual i => r.2.2.1 = 3 ∧ ∃ M, tb r.2.2.2.2.1 = some M ∧ am_callee M r.2.2.2.2.2.1 ∧ (∃ q, vwCl[r.2.2.2.2.2.2 / 100]? = some q ∧ q.1 = M.1.cls) ∧ Cond.methodLink own i M.1 ∈ am_W ∧ Cond.instanceMethod M.1 ∈ am_W ∧ Cond.selects M.1.cls M.1 M.1 ∈ am_W
  | .invokestatic i => r.2.2.1 = 3 ∧
      (r.2.2.2.2.2.2 = 5 → Cond.methodLink own i Lib.Math.max.name ∈ am_W ∧ Cond.static Lib.Math.max.name ∈ am_W ∧ Cond.initialized "java/lang/Math" ∈ am_W ∧ Cond.code Lib.Math.max.name Lib.Math.max.code 2 (some .int) ∈ am_W) ∧
      (r.2.2.2.2.2.2 = 6 → Cond.methodLink own i Lib.Math.min.name ∈ am_W ∧ Cond.static Lib.Math.min.name ∈ am_W ∧ Cond.initialized "java/lang/Math" ∈ am_W ∧ Cond.code Lib.Math.min.name Lib.Math.min.code 2 (some .int) ∈ am_W) ∧
      (r.2.2.2.2.2.2 = 7 → Cond.methodLink own i arraycopyName ∈ am_W ∧ Cond.native arraycopyName ∈ am_W ∧ Cond.static arraycopyName ∈ am_W ∧ Cond.initialized "java/lang/System" ∈ am_W) ∧
      (r.2.2.2.2.2.2 ≠ 5 → r.2.2.2.2.2.2 ≠ 6 → r.2.2.2.2.2.2 ≠ 7 → ∃ M, tb r.2.2.2.2.1 = some M ∧ am_callee M r.2.2.2.2.2.1 ∧ Cond.static M.1 ∈ am_W ∧ (Cond.methodLink own i M.1 ∈ am_W ∨ ∃ host, (own, i, M.1, host) ∈ am_NM))
  | _ => r.2.2.1 = 1
theorem am_lk_mem : ∀ {L : am_L} {i : Nat} {v : Value}, am_lk L i = some v → (i, v) ∈ L
  | [], _, _, h => by cases h
  | q :: L, i, v, h => by
    unfold am_lk at h
    split at h
    · rename_i e
      cases h
      exact e ▸ List.mem_cons_self
    · exact List.mem_cons_of_mem _ (am_lk_mem h)
theorem am_lk_has {ls : Array Slot} {nL : Nat} {L : am_L} {i : Nat} {v : Value} (hl : lv_has ls nL L) (h : am_lk L i = some v) : ls[i]? = some (.val v) := hl.2.2 (i, v) (am_lk_mem h)
section AMT
variable {p : Program} {l : Launch} {e : Env} {R : Room} {s : State} {m : MethodId} {args : Array Value} {below : List Frame} {meth : Method} {c : Code} {Q : State → Prop} {D : va_G} {B : Nat} {sa : Nat → Nat} {cc : ByteArray} {nL d : Nat} {own nm : String} {σ0 σF : am_S} {tb : Nat → Option am_M} {cl : am_F}
/-- the method that runs, its room, its callees -/
def am_X (p : Program) (l : Launch) (R : Room) (s : State) (m : MethodId) (args : Array Value) (meth : Method) (c : Code) (D : va_G) (B : Nat) (sa : Nat → Nat) (cc : ByteArray) (nL d : Nat) (own nm : String) (σ0 σF : am_S) (tb : Nat → Option am_M) (cl : am_F) : Prop :=
  (p.tables.exec = Jvm.exec ∧ c.code = cc ∧ c.maxLocals = nL ∧ s.vm.findClass own = some m.cls ∧ meth.name = nm) ∧ (∀ w ∈ am_W, w.before args s = true) ∧ am_K D B sa s ∧ (R.frames = d + 1 ∧ R.locals = 64 * (d + 1) ∧ R.cells = σF.1 - σ0.1 ∧ R.slots = σF.2.2 - σ0.2.2) ∧
  ∀ (mi : Nat) (as : List Value) (σ : am_S) (v : Option Value) (σ' : am_S), cl mi as σ = some (v, σ') → (σ.1 ≤ σ'.1 ∧ σ.2.2 ≤ σ'.2.2) ∧ ∀ M, tb mi = some M → am_Ct l D B sa M d as σ v σ'
def am_Wat (p : Program) (l : Launch) (e : Env) (R : Room) (s : State) (m : MethodId) (args : Array Value) (below : List Frame) (meth : Method) (c : Code) (Q : State → Prop) (D : va_G) (B nL : Nat) (σ0 : am_S) (pc : Nat) (L : am_L) (st : List Value) (σ : am_S) : Prop :=
  ∀ (H : Heap) (locs : List Loc) (ls : Array Slot), am_R D B s σ H → va_S (fun q => B ≤ q) s.heap H locs → lv_has ls nL L → σ0.1 ≤ σ.1 → σ0.2.2 ≤ σ.2.2 → W p l e R s m args below meth c H locs (σ.1 - σ0.1) (σ.2.2 - σ0.2.2) Q (F0 m pc ls st)
def am_Gd (p : Program) (l : Launch) (e : Env) (R : Room) (s : State) (m : MethodId) (args : Array Value) (below : List Frame) (meth : Method) (c : Code) (Q : State → Prop) (D : va_G) (B nL : Nat) (σ0 σF : am_S) (pc : Nat) (L : am_L) (st : List Value) (σ : am_S) : Prop :=
  (σ.1 ≤ σF.1 ∧ σ.2.2 ≤ σF.2.2) ∧ am_Wat p l e R s m args below meth c Q D B nL σ0 pc L st σ
theorem am_sw_ok {α : Type} {v : Int} {P : Option α → Prop} (dflt : Option α) (jp : Int → Option α) : ∀ (os : List Int) (lo : Int), P (am_sw v dflt jp os lo) → ((v < lo ∨ lo + os.length ≤ v) ∧ P dflt) ∨ ∃ (i : Nat) (o : Int), v = lo + i ∧ os[i]? = some o ∧ P (jp o)
  | [], lo, h => Or.inl ⟨by simp only [List.length_nil]; omega, h⟩
  | o :: os, lo, h => by
    unfold am_sw at h
    split at h
    · rename_i e
      exact Or.inr ⟨0, o, by simpa using e, rfl, h⟩
    · rename_i e
      rcases am_sw_ok dflt jp os (lo + 1) h with ⟨h1, h2⟩ | ⟨i, o', h1, h2, h3⟩
      · refine Or.inl ⟨?_, h2⟩
        simp only [List.length_cons]
        omega
      · exact Or.inr ⟨i + 1, o', by rw [h1]; simp only [Int.natCast_add, Int.natCast_one]; omega, by simpa using h2, h3⟩
theorem am_back_ok {α : Type} {kind : Nat} {r : Option (Option Value × am_S)} {rest : List Value} {nx : List Value → am_S → Option α} {o : α} (h : am_back kind r rest nx = some o) : ∃ (v : Option Value) (σ' : am_S), r = some (v, σ') ∧ nx (v.toList ++ rest) σ' = some o := by
  unfold am_back at h
  split at h
  · cases r with
    | none => cases h
    | some q =>
      obtain ⟨v, σ'⟩ := q
      simp only [Option.bind_some] at h
      split at h
      · exact ⟨none, σ', rfl, h⟩
      · cases h
  · cases r with
    | none => cases h
    | some q =>
      obtain ⟨v, σ'⟩ := q
      simp only [Option.bind_some] at h
      split at h
      · exact ⟨_, σ', rfl, h⟩
      · cases h
  · cases r with
    | none => cases h
    | some q =>
      obtain ⟨v, σ'⟩ := q
      simp only [Option.bind_some] at h
      split at h
      · exact ⟨_, σ', rfl, h⟩
      · exact ⟨_, σ', rfl, h⟩
      · cases h
theorem am_take {n : Nat} {st : List Value} : st = ((st.take n).reverse).reverse ++ st.drop n := by simp
end AMT
end
section
/-! the step theorem -/
section AMU
variable {p : Program} {l : Launch} {e : Env} {R : Room} {s : State} {m : MethodId} {args : Array Value} {below : List Frame} {meth : Method} {c : Code} {Q : State → Prop} {D : va_G} {B : Nat} {sa : Nat → Nat} {cc : ByteArray} {nL d : Nat} {own nm : String} {σ0 σF : am_S} {tb : Nat → Option am_M} {cl : am_F}
theorem am_small_ok {st : List Value} (h : am_small st = true) : (st.map fun v => v.category).sum ≤ 8 := of_decide_eq_true h
set_option maxHeartbeats 4000000 in
theorem am_inv_I {α : Type} (X : am_X p l R s m args meth c D B sa cc nL d own nm σ0 σF tb cl) {M : am_M} {x n pc i : Nat} {L : am_L} {st : List Value} {σ : am_S} {nx : List Value → am_S → Option α} {o : α} (hM : tb x = some M) (hce : am_callee M n) (hret : M.2.2.2.1 = none) (hl : Cond.methodLink own i M.1 ∈ am_W) (hin : Cond.instanceMethod M.1 ∈ am_W) (hnm : M.1.name = "<init>") (hdg : decode cc pc = .ok (.invokespecial i, 3))
    (h : am_invI cl x (n + 1) st σ nx = some o)
    (hn : ∀ st' σ', nx st' σ' = some o → am_Gd p l e R s m args below meth c Q D B nL σ0 σF (pc + 3) L st' σ') : am_Gd p l e R s m args below meth c Q D B nL σ0 σF pc L st σ := by
  obtain ⟨⟨hexec, hb, hml, hown, -⟩, hts, hK, ⟨hfr, hlo, hrc, hrs⟩, hcl⟩ := X
  unfold am_invI at h
  split at h
  · cases h
  · rename_i hlen
    split at h
    · rename_i hsm
      split at h
      · rename_i b As hba
        obtain ⟨v, σ', hr, hnx⟩ := am_back_ok h
        obtain ⟨hmono, hct⟩ := hcl _ _ _ _ _ hr
        obtain ⟨⟨hF1, hF2⟩, hw⟩ := hn _ _ hnx
        refine ⟨⟨by omega, by omega⟩, fun H locs ls hR hS hls h1 h2 => ?_⟩
        have hlA : As.length = n := by
          have := congrArg List.length hba
          rw [List.length_reverse, List.length_take, List.length_cons] at this
          omega
        refine am_w_callI hexec hb hml hown hts hK hR hS (hct M hM) hce hret hl hin hnm hlA hls.1 (by
          have h3 : st = ((st.take (n + 1)).reverse).reverse ++ st.drop (n + 1) := am_take
          rw [hba] at h3
          simpa using h3) (am_small_ok hsm) hfr hlo hdg ⟨by rw [hrc]; omega, by rw [hrs]; omega⟩ fun H1 locs1 hR1 hS1 => ?_
        have := hw H1 locs1 ls hR1 hS1 hls (by omega) (by omega)
        rw [show σ.1 - σ0.1 + (σ'.1 - σ.1) = σ'.1 - σ0.1 by omega, show σ.2.2 - σ0.2.2 + (σ'.2.2 - σ.2.2) = σ'.2.2 - σ0.2.2 by omega]
        exact this
      · cases h
    · cases h
set_option maxHeartbeats 4000000 in
theorem am_inv_S {α : Type} (X : am_X p l R s m args meth c D B sa cc nL d own nm σ0 σF tb cl) {M : am_M} {x n ret pc i : Nat} {L : am_L} {st : List Value} {σ : am_S} {nx : List Value → am_S → Option α} {o : α} (hM : tb x = some M) (hce : am_callee M n) (hst1 : Cond.static M.1 ∈ am_W) (hl : Cond.methodLink own i M.1 ∈ am_W ∨ ∃ host, (own, i, M.1, host) ∈ am_NM) (hdg : decode cc pc = .ok (.invokestatic i, 3))
    (h : am_inv cl x n ret st σ nx = some o)
    (hn : ∀ st' σ', nx st' σ' = some o → am_Gd p l e R s m args below meth c Q D B nL σ0 σF (pc + 3) L st' σ') : am_Gd p l e R s m args below meth c Q D B nL σ0 σF pc L st σ := by
  obtain ⟨⟨hexec, hb, hml, hown, -⟩, hts, hK, ⟨hfr, hlo, hrc, hrs⟩, hcl⟩ := X
  unfold am_inv at h
  split at h
  · cases h
  · rename_i hlen
    split at h
    · rename_i hsm
      obtain ⟨v, σ', hr, hnx⟩ := am_back_ok h
      obtain ⟨hmono, hct⟩ := hcl _ _ _ _ _ hr
      obtain ⟨⟨hF1, hF2⟩, hw⟩ := hn _ _ hnx
      refine ⟨⟨by omega, by omega⟩, fun H locs ls hR hS hls h1 h2 => ?_⟩
      have hl2 : Cond.methodLink own i M.1 ∈ am_W ∨ ∃ host, va_Nw (.methodLinkNest own i M.1 host) s := hl.imp id fun ⟨host, hh⟩ => ⟨host, hK.2.2.1 _ hh⟩
      refine am_w_callS hexec hb hml hown hts hK hR hS (hct M hM) hce hl2 hst1 (by rw [List.length_reverse, List.length_take]; omega) hls.1 am_take (am_small_ok hsm) hfr hlo hdg ⟨by rw [hrc]; omega, by rw [hrs]; omega⟩ fun H1 locs1 hR1 hS1 => ?_
      have := hw H1 locs1 ls hR1 hS1 hls (by omega) (by omega)
      rw [show σ.1 - σ0.1 + (σ'.1 - σ.1) = σ'.1 - σ0.1 by omega, show σ.2.2 - σ0.2.2 + (σ'.2.2 - σ.2.2) = σ'.2.2 - σ0.2.2 by omega]
      exact this
    · cases h
set_option maxHeartbeats 4000000 in
theorem am_inv_V {α : Type} (X : am_X p l R s m args meth c D B sa cc nL d own nm σ0 σF tb cl) {M : am_M} {x n ret ci pc i : Nat} {L : am_L} {st : List Value} {σ : am_S} {nx : List Value → am_S → Option α} {o : α} {q : vw_C} (hM : tb x = some M) (hce : am_callee M n) (hc : vwCl[ci]? = some q) (hcq : q.1 = M.1.cls) (hl : Cond.methodLink own i M.1 ∈ am_W) (hin : Cond.instanceMethod M.1 ∈ am_W) (hsel : Cond.selects M.1.cls M.1 M.1 ∈ am_W) (hdg : decode cc pc = .ok (.invokevirtual i, 3))
    (h : am_invV cl x (n + 1) ret ci st σ nx = some o)
    (hn : ∀ st' σ', nx st' σ' = some o → am_Gd p l e R s m args below meth c Q D B nL σ0 σF (pc + 3) L st' σ') : am_Gd p l e R s m args below meth c Q D B nL σ0 σF pc L st σ := by
  obtain ⟨⟨hexec, hb, hml, hown, -⟩, hts, hK, ⟨hfr, hlo, hrc, hrs⟩, hcl⟩ := X
  unfold am_invV at h
  split at h
  · cases h
  · rename_i hlen
    split at h
    · rename_i hsm
      split at h
      · rename_i b As hba
        obtain ⟨fs, ho, h⟩ := Option.bind_eq_some_iff.mp h
        obtain ⟨v, σ', hr, hnx⟩ := am_back_ok h
        obtain ⟨hmono, hct⟩ := hcl _ _ _ _ _ hr
        obtain ⟨⟨hF1, hF2⟩, hw⟩ := hn _ _ hnx
        refine ⟨⟨by omega, by omega⟩, fun H locs ls hR hS hls h1 h2 => ?_⟩
        have hlA : As.length = n := by
          have := congrArg List.length hba
          rw [List.length_reverse, List.length_take, List.length_cons] at this
          omega
        refine am_w_callV hexec hb hml hown hts hK hR hS (hct M hM) hce ho hc hcq hl hin hsel hlA hls.1 (by
          have h3 : st = ((st.take (n + 1)).reverse).reverse ++ st.drop (n + 1) := am_take
          rw [hba] at h3
          simpa using h3) (am_small_ok hsm) hfr hlo hdg ⟨by rw [hrc]; omega, by rw [hrs]; omega⟩ fun H1 locs1 hR1 hS1 => ?_
        have := hw H1 locs1 ls hR1 hS1 hls (by omega) (by omega)
        rw [show σ.1 - σ0.1 + (σ'.1 - σ.1) = σ'.1 - σ0.1 by omega, show σ.2.2 - σ0.2.2 + (σ'.2.2 - σ.2.2) = σ'.2.2 - σ0.2.2 by omega]
        exact this
      · cases h
    · cases h
theorem am_put_ok {σ σ' : am_S} {a ci k : Nat} {v : Value} (h : am_put B σ a ci k v = some σ') : ∃ fs, am_obj σ a ci = some fs ∧ B ≤ a ∧ k < fs.length ∧ σ' = (σ.1, am_upd σ.2.1 a (.inr (ci, fs.set k v)), σ.2.2) := by
  unfold am_put at h
  obtain ⟨fs, ho, h⟩ := Option.bind_eq_some_iff.mp h
  split at h
  · cases h
  · rename_i hc
    cases h
    exact ⟨fs, ho, by omega, by omega, rfl⟩
theorem am_iald_ok {σ : am_S} {a : Nat} {i v : Int32} (h : am_iald σ a i = some v) : ∃ x, am_arr σ a = some x ∧ ¬ (i < 0 ∨ x.1 ≤ i.toNatClampNeg) ∧ v = x.2 i.toNatClampNeg := by
  unfold am_iald at h
  obtain ⟨x, ho, h⟩ := Option.bind_eq_some_iff.mp h
  split at h
  · cases h
  · rename_i hc
    cases h
    exact ⟨x, ho, hc, rfl⟩
theorem am_iast_ok {σ σ' : am_S} {a : Nat} {i v : Int32} (h : am_iast B σ a i v = some σ') : ∃ y, am_arr σ a = some y ∧ B ≤ a ∧ ¬ (i < 0 ∨ y.1 ≤ i.toNatClampNeg) ∧ σ' = (σ.1, am_upd σ.2.1 a (.inl (y.1, upd y.2 i.toNatClampNeg v)), σ.2.2) := by
  unfold am_iast at h
  obtain ⟨x, ho, h⟩ := Option.bind_eq_some_iff.mp h
  split at h
  · cases h
  · rename_i hc
    cases h
    exact ⟨x, ho, by omega, fun z => hc (Or.inr z), rfl⟩
theorem am_geti_ok {σ : am_S} {a ci k : Nat} {v : Int32} (h : am_geti σ a ci k = some v) : ∃ fs, am_obj σ a ci = some fs ∧ fs[k]? = some (.int v) := by
  unfold am_geti at h
  obtain ⟨fs, ho, h⟩ := Option.bind_eq_some_iff.mp h
  split at h
  · rename_i x hx
    cases h
    exact ⟨fs, ho, hx⟩
  · cases h
theorem am_getr_ok {σ : am_S} {a ci k v : Nat} (h : am_getr σ a ci k = some v) : ∃ fs, am_obj σ a ci = some fs ∧ fs[k]? = some (.ref v) := by
  unfold am_getr at h
  obtain ⟨fs, ho, h⟩ := Option.bind_eq_some_iff.mp h
  split at h
  · rename_i x hx
    cases h
    exact ⟨fs, ho, hx⟩
  · cases h
theorem am_cpy_ok {σ σ' : am_S} {a0 a : Nat} {sp dp n : Int32} (h : am_cpy B σ a0 sp a dp n = some σ') : ∃ x y, am_arr σ a0 = some x ∧ am_arr σ a = some y ∧ B ≤ a0 ∧ B ≤ a ∧ ¬ sp < 0 ∧ ¬ dp < 0 ∧ ¬ n < 0 ∧ sp.toNatClampNeg + n.toNatClampNeg ≤ x.1 ∧ dp.toNatClampNeg + n.toNatClampNeg ≤ y.1 ∧ σ' = (σ.1, am_upd σ.2.1 a (.inl (y.1, va_cpy x.2 y.2 sp.toNatClampNeg dp.toNatClampNeg n.toNatClampNeg)), σ.2.2) := by
  unfold am_cpy at h
  obtain ⟨x, ho, h⟩ := Option.bind_eq_some_iff.mp h
  obtain ⟨y, ho2, h⟩ := Option.bind_eq_some_iff.mp h
  split at h
  · cases h
  · rename_i hc
    cases h
    exact ⟨x, y, ho, ho2, by omega, by omega, fun z => hc (by simp [z]), fun z => hc (by simp [z]), fun z => hc (by simp [z]), by omega, by omega, rfl⟩
end AMU
end
section
/-! the step theorem, case by case -/
section AMV
variable {p : Program} {l : Launch} {e : Env} {R : Room} {s : State} {m : MethodId} {args : Array Value} {below : List Frame} {meth : Method} {c : Code} {Q : State → Prop} {D : va_G} {B : Nat} {sa : Nat → Nat} {cc : ByteArray} {nL d : Nat} {own nm : String} {σ0 σF : am_S} {tb : Nat → Option am_M} {cl : am_F}
set_option maxHeartbeats 8000000 in
set_option maxRecDepth 20000 in
theorem am_step_ok {α : Type} (X : am_X p l R s m args meth c D B sa cc nL d own nm σ0 σF tb cl) {r : am_I} (hg : am_good tb own nm nL cc r) {L : am_L} {st : List Value} {σ : am_S} {nx : am_L → List Value → am_S → Option α} {jp : Nat → am_L → List Value → am_S → Option α} {o : α}
    (h : am_step B sa am_dfl cl r L st σ nx jp = some o)
    (hn : ∀ (L' : am_L) (st' : List Value) (σ' : am_S), nx L' st' σ' = some o → am_Gd p l e R s m args below meth c Q D B nL σ0 σF (r.1 + r.2.2.1) L' st' σ')
    (hj : ∀ (pc' : Nat) (L' : am_L) (st' : List Value) (σ' : am_S), jp pc' L' st' σ' = some o → am_Gd p l e R s m args below meth c Q D B nL σ0 σF pc' L' st' σ') : am_Gd p l e R s m args below meth c Q D B nL σ0 σF r.1 L st σ := by
  obtain ⟨pc, ins, len, stop, x, y, z⟩ := r
  obtain ⟨hdg, hg⟩ := hg
  have X0 := X
  obtain ⟨⟨hexec, hb, hml, hown, hnm⟩, hts, hK, ⟨hfr, hlo, hrc, hrs⟩, hcl⟩ := X
  dsimp only at hdg hn ⊢
  cases ins with
  | iconst n =>
    unfold am_step at h
    dsimp only at h hg
    subst hg
    obtain ⟨hF, hw⟩ := hn _ _ _ h
    exact ⟨hF, fun H locs ls hR hS hls h1 h2 => lv_iconst hexec hb hdg rfl (hw H locs ls hR hS hls h1 h2)⟩
  | bipush n =>
    unfold am_step at h
    dsimp only at h hg
    subst hg
    obtain ⟨hF, hw⟩ := hn _ _ _ h
    exact ⟨hF, fun H locs ls hR hS hls h1 h2 => lv_bipush hexec hb hdg rfl (hw H locs ls hR hS hls h1 h2)⟩
  | sipush n =>
    unfold am_step at h
    dsimp only at h hg
    subst hg
    obtain ⟨hF, hw⟩ := hn _ _ _ h
    exact ⟨hF, fun H locs ls hR hS hls h1 h2 => lv_sipush hexec hb hdg rfl (hw H locs ls hR hS hls h1 h2)⟩
  | aconst_null =>
    unfold am_step at h
    dsimp only at h hg
    subst hg
    obtain ⟨hF, hw⟩ := hn _ _ _ h
    exact ⟨hF, fun H locs ls hR hS hls h1 h2 => lv_null hexec hb hdg (hw H locs ls hR hS hls h1 h2)⟩
  | ldc i =>
    unfold am_step at h
    dsimp only at h hg
    obtain ⟨rfl, hc⟩ := hg
    obtain ⟨hF, hw⟩ := hn _ _ _ h
    exact ⟨hF, fun H locs ls hR hS hls h1 h2 => lv_ldc hexec hb hown (hts _ hc) hdg (hw H locs ls hR hS hls h1 h2)⟩
  | ldc_w i =>
    unfold am_step at h
    dsimp only at h hg
    obtain ⟨rfl, hc⟩ := hg
    obtain ⟨hF, hw⟩ := hn _ _ _ h
    exact ⟨hF, fun H locs ls hR hS hls h1 h2 => lv_ldcw hexec hb hown (hts _ hc) hdg (hw H locs ls hR hS hls h1 h2)⟩
  | iload_n k =>
    unfold am_step at h
    dsimp only at h hg
    subst hg
    split at h
    · rename_i v hv
      obtain ⟨hF, hw⟩ := hn _ _ _ h
      exact ⟨hF, fun H locs ls hR hS hls h1 h2 => lv_iload_n hexec hb hdg rfl (am_lk_has hls hv) (hw H locs ls hR hS hls h1 h2)⟩
    · cases h
  | iload k =>
    unfold am_step at h
    dsimp only at h hg
    subst hg
    split at h
    · rename_i v hv
      obtain ⟨hF, hw⟩ := hn _ _ _ h
      exact ⟨hF, fun H locs ls hR hS hls h1 h2 => lv_iload hexec hb hdg (am_lk_has hls hv) (hw H locs ls hR hS hls h1 h2)⟩
    · cases h
  | aload_n k =>
    unfold am_step at h
    dsimp only at h hg
    subst hg
    split at h
    · rename_i v hv
      obtain ⟨hF, hw⟩ := hn _ _ _ h
      exact ⟨hF, fun H locs ls hR hS hls h1 h2 => lv_aload_n hexec hb hdg rfl (am_lk_has hls hv) (hw H locs ls hR hS hls h1 h2)⟩
    · rename_i hv
      obtain ⟨hF, hw⟩ := hn _ _ _ h
      exact ⟨hF, fun H locs ls hR hS hls h1 h2 => lv_aload_nN hexec hb hdg rfl (am_lk_has hls hv) (hw H locs ls hR hS hls h1 h2)⟩
    · cases h
  | aload k =>
    unfold am_step at h
    dsimp only at h hg
    subst hg
    split at h
    · rename_i v hv
      obtain ⟨hF, hw⟩ := hn _ _ _ h
      exact ⟨hF, fun H locs ls hR hS hls h1 h2 => lv_aload hexec hb hdg (am_lk_has hls hv) (hw H locs ls hR hS hls h1 h2)⟩
    · rename_i hv
      obtain ⟨hF, hw⟩ := hn _ _ _ h
      exact ⟨hF, fun H locs ls hR hS hls h1 h2 => lv_aloadN hexec hb hdg (am_lk_has hls hv) (hw H locs ls hR hS hls h1 h2)⟩
    · cases h
  | istore_n k =>
    unfold am_step at h
    dsimp only at h hg
    obtain ⟨rfl, hk⟩ := hg
    split at h
    · obtain ⟨hF, hw⟩ := hn _ _ _ h
      exact ⟨hF, fun H locs ls hR hS hls h1 h2 => lv_istore_n hexec hb hdg rfl hls hk rfl fun ls' hl' => hw H locs ls' hR hS hl' h1 h2⟩
    · cases h
  | istore k =>
    unfold am_step at h
    dsimp only at h hg
    obtain ⟨rfl, hk⟩ := hg
    split at h
    · obtain ⟨hF, hw⟩ := hn _ _ _ h
      exact ⟨hF, fun H locs ls hR hS hls h1 h2 => lv_istore hexec hb hdg hls hk rfl fun ls' hl' => hw H locs ls' hR hS hl' h1 h2⟩
    · cases h
  | astore_n k =>
    unfold am_step at h
    dsimp only at h hg
    obtain ⟨rfl, hk⟩ := hg
    split at h
    · obtain ⟨hF, hw⟩ := hn _ _ _ h
      exact ⟨hF, fun H locs ls hR hS hls h1 h2 => lv_astore_n hexec hb hdg rfl hls hk rfl fun ls' hl' => hw H locs ls' hR hS hl' h1 h2⟩
    · obtain ⟨hF, hw⟩ := hn _ _ _ h
      exact ⟨hF, fun H locs ls hR hS hls h1 h2 => lv_astore_nN hexec hb hdg rfl hls hk rfl fun ls' hl' => hw H locs ls' hR hS hl' h1 h2⟩
    · cases h
  | astore k =>
    unfold am_step at h
    dsimp only at h hg
    obtain ⟨rfl, hk⟩ := hg
    split at h
    · obtain ⟨hF, hw⟩ := hn _ _ _ h
      exact ⟨hF, fun H locs ls hR hS hls h1 h2 => lv_astore hexec hb hdg hls hk rfl fun ls' hl' => hw H locs ls' hR hS hl' h1 h2⟩
    · obtain ⟨hF, hw⟩ := hn _ _ _ h
      exact ⟨hF, fun H locs ls hR hS hls h1 h2 => lv_astoreN hexec hb hdg hls hk rfl fun ls' hl' => hw H locs ls' hR hS hl' h1 h2⟩
    · cases h
  | iinc k n =>
    unfold am_step at h
    dsimp only at h hg
    obtain ⟨rfl, hk⟩ := hg
    split at h
    · rename_i v hv
      obtain ⟨hF, hw⟩ := hn _ _ _ h
      obtain ⟨kk, hkk⟩ := List.getElem?_of_mem (am_lk_mem hv)
      exact ⟨hF, fun H locs ls hR hS hls h1 h2 => lv_iinc hexec hb hdg hls hkk rfl hk rfl fun ls' hl' => hw H locs ls' hR hS hl' h1 h2⟩
    · cases h
  | iadd =>
    unfold am_step at h
    dsimp only at h hg
    subst hg
    split at h
    · obtain ⟨hF, hw⟩ := hn _ _ _ h
      exact ⟨hF, fun H locs ls hR hS hls h1 h2 => lv_iadd hexec hb hdg (hw H locs ls hR hS hls h1 h2)⟩
    · cases h
  | isub =>
    unfold am_step at h
    dsimp only at h hg
    subst hg
    split at h
    · obtain ⟨hF, hw⟩ := hn _ _ _ h
      exact ⟨hF, fun H locs ls hR hS hls h1 h2 => lv_isub hexec hb hdg (hw H locs ls hR hS hls h1 h2)⟩
    · cases h
  | imul =>
    unfold am_step at h
    dsimp only at h hg
    subst hg
    split at h
    · obtain ⟨hF, hw⟩ := hn _ _ _ h
      exact ⟨hF, fun H locs ls hR hS hls h1 h2 => lv_imul hexec hb hdg (hw H locs ls hR hS hls h1 h2)⟩
    · cases h
  | iand =>
    unfold am_step at h
    dsimp only at h hg
    subst hg
    split at h
    · obtain ⟨hF, hw⟩ := hn _ _ _ h
      exact ⟨hF, fun H locs ls hR hS hls h1 h2 => lv_iand hexec hb hdg (hw H locs ls hR hS hls h1 h2)⟩
    · cases h
  | ixor =>
    unfold am_step at h
    dsimp only at h hg
    subst hg
    split at h
    · obtain ⟨hF, hw⟩ := hn _ _ _ h
      exact ⟨hF, fun H locs ls hR hS hls h1 h2 => lv_ixor hexec hb hdg (hw H locs ls hR hS hls h1 h2)⟩
    · cases h
  | ineg =>
    unfold am_step at h
    dsimp only at h hg
    subst hg
    split at h
    · obtain ⟨hF, hw⟩ := hn _ _ _ h
      exact ⟨hF, fun H locs ls hR hS hls h1 h2 => lv_ineg hexec hb hdg (hw H locs ls hR hS hls h1 h2)⟩
    · cases h
  | iushr =>
    unfold am_step at h
    dsimp only at h hg
    subst hg
    split at h
    · obtain ⟨hF, hw⟩ := hn _ _ _ h
      exact ⟨hF, fun H locs ls hR hS hls h1 h2 => lv_iushr hexec hb hdg rfl (hw H locs ls hR hS hls h1 h2)⟩
    · cases h
  | idiv =>
    unfold am_step at h
    dsimp only at h hg
    subst hg
    split at h
    · split at h
      · cases h
      · rename_i hne
        obtain ⟨hF, hw⟩ := hn _ _ _ h
        exact ⟨hF, fun H locs ls hR hS hls h1 h2 => lv_idiv hexec hb hdg hne (hw H locs ls hR hS hls h1 h2)⟩
    · cases h
  | irem =>
    unfold am_step at h
    dsimp only at h hg
    subst hg
    split at h
    · split at h
      · cases h
      · rename_i hne
        obtain ⟨hF, hw⟩ := hn _ _ _ h
        exact ⟨hF, fun H locs ls hR hS hls h1 h2 => lv_irem hexec hb hdg hne (hw H locs ls hR hS hls h1 h2)⟩
    · cases h
  | dup =>
    unfold am_step at h
    dsimp only at h hg
    subst hg
    split at h
    · obtain ⟨hF, hw⟩ := hn _ _ _ h
      exact ⟨hF, fun H locs ls hR hS hls h1 h2 => lv_dup hexec hb hdg rfl (hw H locs ls hR hS hls h1 h2)⟩
    · obtain ⟨hF, hw⟩ := hn _ _ _ h
      exact ⟨hF, fun H locs ls hR hS hls h1 h2 => lv_dup hexec hb hdg rfl (hw H locs ls hR hS hls h1 h2)⟩
    · cases h
  | pop =>
    unfold am_step at h
    dsimp only at h hg
    subst hg
    split at h
    · obtain ⟨hF, hw⟩ := hn _ _ _ h
      exact ⟨hF, fun H locs ls hR hS hls h1 h2 => lv_pop hexec hb hdg rfl (hw H locs ls hR hS hls h1 h2)⟩
    · obtain ⟨hF, hw⟩ := hn _ _ _ h
      exact ⟨hF, fun H locs ls hR hS hls h1 h2 => lv_pop hexec hb hdg rfl (hw H locs ls hR hS hls h1 h2)⟩
    · cases h
  | dup2 =>
    unfold am_step at h
    dsimp only at h hg
    subst hg
    split at h
    · obtain ⟨hF, hw⟩ := hn _ _ _ h
      exact ⟨hF, fun H locs ls hR hS hls h1 h2 => lv_dup2_11 hexec hb hdg rfl rfl (hw H locs ls hR hS hls h1 h2)⟩
    · cases h
  | goto off =>
    unfold am_step at h
    dsimp only at h hg
    obtain ⟨rfl, ht⟩ := hg
    obtain ⟨hF, hw⟩ := hj _ _ _ _ h
    exact ⟨hF, fun H locs ls hR hS hls h1 h2 => lv_goto hexec hb hdg ht (hw H locs ls hR hS hls h1 h2)⟩
  | if_icmp cd off =>
    unfold am_step at h
    dsimp only at h hg
    obtain ⟨rfl, ht⟩ := hg
    split at h
    · split at h
      · rename_i hc
        obtain ⟨hF, hw⟩ := hj _ _ _ _ h
        refine ⟨hF, fun H locs ls hR hS hls h1 h2 => ?_⟩
        have hk := hw H locs ls hR hS hls h1 h2
        cases cd <;> simp only [am_cond, decide_eq_true_eq] at hc
        · exact lv_icmp_eq hexec hb hdg ht (fun _ => hk) (fun hc2 => absurd hc (by first | exact hc2 | exact fun h9 => h9 hc2))
        · exact lv_icmp_ne hexec hb hdg ht (fun _ => hk) (fun hc2 => absurd hc (by first | exact hc2 | exact fun h9 => h9 hc2))
        · exact lv_icmp_lt hexec hb hdg ht (fun _ => hk) (fun hc2 => absurd hc (by first | exact hc2 | exact fun h9 => h9 hc2))
        · exact lv_icmp_ge hexec hb hdg ht (fun _ => hk) (fun hc2 => absurd hc (by first | exact hc2 | exact fun h9 => h9 hc2))
        · exact lv_icmp_gt hexec hb hdg ht (fun _ => hk) (fun hc2 => absurd hc (by first | exact hc2 | exact fun h9 => h9 hc2))
        · exact lv_icmp_le hexec hb hdg ht (fun _ => hk) (fun hc2 => absurd hc (by first | exact hc2 | exact fun h9 => h9 hc2))
      · rename_i hc
        obtain ⟨hF, hw⟩ := hn _ _ _ h
        refine ⟨hF, fun H locs ls hR hS hls h1 h2 => ?_⟩
        have hk := hw H locs ls hR hS hls h1 h2
        cases cd <;> simp only [am_cond, decide_eq_true_eq] at hc
        · exact lv_icmp_eq hexec hb hdg ht (fun hc2 => absurd hc2 hc) (fun _ => hk)
        · exact lv_icmp_ne hexec hb hdg ht (fun hc2 => absurd hc2 hc) (fun _ => hk)
        · exact lv_icmp_lt hexec hb hdg ht (fun hc2 => absurd hc2 hc) (fun _ => hk)
        · exact lv_icmp_ge hexec hb hdg ht (fun hc2 => absurd hc2 hc) (fun _ => hk)
        · exact lv_icmp_gt hexec hb hdg ht (fun hc2 => absurd hc2 hc) (fun _ => hk)
        · exact lv_icmp_le hexec hb hdg ht (fun hc2 => absurd hc2 hc) (fun _ => hk)
    · cases h
  | ifCond cd off =>
    unfold am_step at h
    dsimp only at h hg
    obtain ⟨rfl, ht⟩ := hg
    split at h
    · split at h
      · rename_i hc
        obtain ⟨hF, hw⟩ := hj _ _ _ _ h
        refine ⟨hF, fun H locs ls hR hS hls h1 h2 => ?_⟩
        have hk := hw H locs ls hR hS hls h1 h2
        cases cd <;> simp only [am_cond, decide_eq_true_eq] at hc
        · exact lv_if_eq hexec hb hdg ht (fun _ => hk) (fun hc2 => absurd hc (by first | exact hc2 | exact fun h9 => h9 hc2))
        · exact lv_if_ne hexec hb hdg ht (fun _ => hk) (fun hc2 => absurd hc (by first | exact hc2 | exact fun h9 => h9 hc2))
        · exact lv_if_lt hexec hb hdg ht (fun _ => hk) (fun hc2 => absurd hc (by first | exact hc2 | exact fun h9 => h9 hc2))
        · exact lv_if_ge hexec hb hdg ht (fun _ => hk) (fun hc2 => absurd hc (by first | exact hc2 | exact fun h9 => h9 hc2))
        · exact lv_if_gt hexec hb hdg ht (fun _ => hk) (fun hc2 => absurd hc (by first | exact hc2 | exact fun h9 => h9 hc2))
        · exact lv_if_le hexec hb hdg ht (fun _ => hk) (fun hc2 => absurd hc (by first | exact hc2 | exact fun h9 => h9 hc2))
      · rename_i hc
        obtain ⟨hF, hw⟩ := hn _ _ _ h
        refine ⟨hF, fun H locs ls hR hS hls h1 h2 => ?_⟩
        have hk := hw H locs ls hR hS hls h1 h2
        cases cd <;> simp only [am_cond, decide_eq_true_eq] at hc
        · exact lv_if_eq hexec hb hdg ht (fun hc2 => absurd hc2 hc) (fun _ => hk)
        · exact lv_if_ne hexec hb hdg ht (fun hc2 => absurd hc2 hc) (fun _ => hk)
        · exact lv_if_lt hexec hb hdg ht (fun hc2 => absurd hc2 hc) (fun _ => hk)
        · exact lv_if_ge hexec hb hdg ht (fun hc2 => absurd hc2 hc) (fun _ => hk)
        · exact lv_if_gt hexec hb hdg ht (fun hc2 => absurd hc2 hc) (fun _ => hk)
        · exact lv_if_le hexec hb hdg ht (fun hc2 => absurd hc2 hc) (fun _ => hk)
    · cases h
  | ifnull off =>
    unfold am_step at h
    dsimp only at h hg
    obtain ⟨rfl, ht⟩ := hg
    split at h
    · obtain ⟨hF, hw⟩ := hj _ _ _ _ h
      exact ⟨hF, fun H locs ls hR hS hls h1 h2 => lv_ifnullN hexec hb hdg ht (hw H locs ls hR hS hls h1 h2)⟩
    · obtain ⟨hF, hw⟩ := hn _ _ _ h
      exact ⟨hF, fun H locs ls hR hS hls h1 h2 => lv_ifnull hexec hb hdg (hw H locs ls hR hS hls h1 h2)⟩
    · cases h
  | ifnonnull off =>
    unfold am_step at h
    dsimp only at h hg
    obtain ⟨rfl, ht⟩ := hg
    split at h
    · obtain ⟨hF, hw⟩ := hn _ _ _ h
      exact ⟨hF, fun H locs ls hR hS hls h1 h2 => lv_ifnonnullN hexec hb hdg (hw H locs ls hR hS hls h1 h2)⟩
    · obtain ⟨hF, hw⟩ := hj _ _ _ _ h
      exact ⟨hF, fun H locs ls hR hS hls h1 h2 => lv_ifnonnull hexec hb hdg ht (hw H locs ls hR hS hls h1 h2)⟩
    · cases h
  | tableswitch dflt lo hi offs =>
    unfold am_step at h
    dsimp only at h hg
    obtain ⟨hhi, hd0, hos⟩ := hg
    split at h
    · rename_i v r9
      rcases am_sw_ok (P := fun w => w = some o) _ _ _ _ h with ⟨h1, h2⟩ | ⟨i, of, h1, h2, h3⟩
      · obtain ⟨hF, hw⟩ := hj _ _ _ _ h2
        refine ⟨hF, fun H locs ls hR hS hls g1 g2 => lv_tableOut hexec hb hdg ?_ (Int.toNat_of_nonneg hd0).symm (hw H locs ls hR hS hls g1 g2)⟩
        rw [Array.length_toList] at h1
        omega
      · obtain ⟨hF, hw⟩ := hj _ _ _ _ h3
        have hm : of ∈ offs.toList := List.mem_of_getElem? h2
        have hil : i < offs.size := by rw [← Array.length_toList]; exact (List.getElem?_eq_some_iff.mp h2).1
        refine ⟨hF, fun H locs ls hR hS hls g1 g2 => lv_tableIn hexec hb hdg (by omega) (by omega) (off := of) ?_ (Int.toNat_of_nonneg (hos of hm)).symm (hw H locs ls hR hS hls g1 g2)⟩
        rw [show (v.toInt - lo).toNat = i by omega, ← Array.getElem?_toList]
        exact h2
    · cases h
  | getfield i =>
    unfold am_step at h
    dsimp only at h hg
    obtain ⟨rfl, q, hq, hy, hlk⟩ := hg
    have hlk2 : Cond.fieldLink own i (q.2.1 y).1 (q.2.1 y).2.1 (q.2.1 y).2.2.1 ∈ am_W ∨ ∃ host, va_Nw (.fieldLinkNest own i (q.2.1 y).1 (q.2.1 y).2.1 (q.2.1 y).2.2.1 host) s := hlk.imp id fun ⟨host, hh⟩ => ⟨host, hK.2.1 _ hh⟩
    split at h
    · split at h
      · obtain ⟨v, hv, h⟩ := Option.bind_eq_some_iff.mp h
        obtain ⟨fs, ho, hfv⟩ := am_geti_ok hv
        obtain ⟨hF, hw⟩ := hn _ _ _ h
        exact ⟨hF, fun H locs ls hR hS hls h1 h2 => am_w_get hexec hb hts hown hK.1 hR ho hfv hq hy hlk2 hdg (hw H locs ls hR hS hls h1 h2)⟩
      · obtain ⟨v, hv, h⟩ := Option.bind_eq_some_iff.mp h
        obtain ⟨fs, ho, hfv⟩ := am_getr_ok hv
        obtain ⟨hF, hw⟩ := hn _ _ _ h
        exact ⟨hF, fun H locs ls hR hS hls h1 h2 => am_w_get hexec hb hts hown hK.1 hR ho hfv hq hy hlk2 hdg (hw H locs ls hR hS hls h1 h2)⟩
    · cases h
  | putfield i =>
    unfold am_step at h
    dsimp only at h hg
    obtain ⟨rfl, q, ty, hq, hd, hi0, hi2, hi1, hlk⟩ := hg
    have hlk2 : ((q.2.1 y).2.2.2 = false ∧ (Cond.fieldLink own i (q.2.1 y).1 (q.2.1 y).2.1 (q.2.1 y).2.2.1 ∈ am_W ∨ ∃ host, va_Nw (.fieldLinkNest own i (q.2.1 y).1 (q.2.1 y).2.1 (q.2.1 y).2.2.1 host) s)) ∨ ((q.2.1 y).2.2.2 = true ∧ meth.name = "<init>" ∧ (q.2.1 y).1 = own ∧ Cond.fieldLink own i (q.2.1 y).1 (q.2.1 y).2.1 (q.2.1 y).2.2.1 ∈ am_W) := hlk.imp (fun ⟨g1, g2⟩ => ⟨g1, g2.imp id fun ⟨host, hh⟩ => ⟨host, hK.2.1 _ hh⟩⟩) fun ⟨g1, g2, g3⟩ => ⟨g1, hnm.trans g2, g3⟩
    split at h
    · split at h
      · rename_i hz
        have hty := hi0 hz
        subst hty
        obtain ⟨σ', hv, h⟩ := Option.bind_eq_some_iff.mp h
        obtain ⟨fs, ho, hBa, hkl, rfl⟩ := am_put_ok hv
        obtain ⟨hF, hw⟩ := hn _ _ _ h
        exact ⟨hF, fun H locs ls hR hS hls h1 h2 => am_w_put hexec hb hts hown hK.1 hR hS ho hBa hkl hq hd rfl rfl hlk2 hdg fun H1 locs1 hR1 hS1 => hw H1 locs1 ls hR1 hS1 hls h1 h2⟩
      · split at h
        · rename_i hz
          have hty := hi2 hz
          subst hty
          split at h
          · rename_i h01
            have hbo : ∀ w : Int32, w = 0 ∨ w = 1 → narrow .boolean (.int w) = .int w ∧ fits .boolean (.int w) = true := by
              intro w hw9
              rcases hw9 with rfl | rfl <;> exact ⟨rfl, rfl⟩
            obtain ⟨σ', hv, h⟩ := Option.bind_eq_some_iff.mp h
            obtain ⟨fs, ho, hBa, hkl, rfl⟩ := am_put_ok hv
            obtain ⟨hF, hw⟩ := hn _ _ _ h
            exact ⟨hF, fun H locs ls hR hS hls h1 h2 => am_w_put hexec hb hts hown hK.1 hR hS ho hBa hkl hq hd (hbo _ h01).1 (hbo _ h01).2 hlk2 hdg fun H1 locs1 hR1 hS1 => hw H1 locs1 ls hR1 hS1 hls h1 h2⟩
          · cases h
        · cases h
    · split at h
      · rename_i hz
        have hrf : ∀ a : Nat, narrow ty (.ref a) = .ref a ∧ fits ty (.ref a) = true := by
          intro a
          rcases hi1 hz with ⟨n, rfl⟩ | ⟨t, rfl⟩ <;> exact ⟨rfl, rfl⟩
        obtain ⟨σ', hv, h⟩ := Option.bind_eq_some_iff.mp h
        obtain ⟨fs, ho, hBa, hkl, rfl⟩ := am_put_ok hv
        obtain ⟨hF, hw⟩ := hn _ _ _ h
        exact ⟨hF, fun H locs ls hR hS hls h1 h2 => am_w_put hexec hb hts hown hK.1 hR hS ho hBa hkl hq hd (hrf _).1 (hrf _).2 hlk2 hdg fun H1 locs1 hR1 hS1 => hw H1 locs1 ls hR1 hS1 hls h1 h2⟩
      · cases h
    · cases h
  | getstatic i =>
    unfold am_step at h
    dsimp only at h hg
    obtain ⟨rfl, q, hq, hl⟩ := hg
    obtain ⟨hF, hw⟩ := hn _ _ _ h
    exact ⟨hF, fun H locs ls hR hS hls h1 h2 => va_gets hexec hb (hK.2.2.2 x q hq) hS hown (hts _ hl) (fun _ h9 => h9) hdg (hw H locs ls hR hS hls h1 h2)⟩
  | iaload =>
    unfold am_step at h
    dsimp only at h hg
    subst hg
    split at h
    · obtain ⟨v, hv, h⟩ := Option.bind_eq_some_iff.mp h
      obtain ⟨x9, ho, hin, rfl⟩ := am_iald_ok hv
      obtain ⟨hF, hw⟩ := hn _ _ _ h
      exact ⟨hF, fun H locs ls hR hS hls h1 h2 => am_w_iald hexec hb hR ho hin hdg (hw H locs ls hR hS hls h1 h2)⟩
    · cases h
  | iastore =>
    unfold am_step at h
    dsimp only at h hg
    subst hg
    split at h
    · obtain ⟨σ', hv, h⟩ := Option.bind_eq_some_iff.mp h
      obtain ⟨y9, ho, hBa, hin, rfl⟩ := am_iast_ok hv
      obtain ⟨hF, hw⟩ := hn _ _ _ h
      exact ⟨hF, fun H locs ls hR hS hls h1 h2 => am_w_iast hexec hb hR hS ho hBa hin hdg fun H1 locs1 hR1 hS1 => hw H1 locs1 ls hR1 hS1 hls h1 h2⟩
    · cases h
  | arraylength =>
    unfold am_step at h
    dsimp only at h hg
    subst hg
    split at h
    · unfold am_alen at h
      obtain ⟨v, hv, h⟩ := Option.bind_eq_some_iff.mp h
      obtain ⟨x9, ho, hx⟩ := Option.bind_eq_some_iff.mp hv
      cases hx
      obtain ⟨hF, hw⟩ := hn _ _ _ h
      exact ⟨hF, fun H locs ls hR hS hls h1 h2 => am_w_alen hexec hb hR ho hdg (hw H locs ls hR hS hls h1 h2)⟩
    · cases h
  | newarray ty =>
    unfold am_step at h
    dsimp only at h hg
    cases ty with
    | int =>
      dsimp only at h hg
      obtain ⟨rfl, hac⟩ := hg
      split at h
      · split at h
        · cases h
        · rename_i n r9 hcond
          obtain ⟨⟨hF1, hF2⟩, hw⟩ := hn _ _ _ h
          simp only [am_nwa] at hF1 hF2
          have hn0 : ¬ n < 0 := fun z => hcond (Or.inl z)
          have hn1 : n.toNatClampNeg ≤ 100000 := by
            have h5 : ¬ (100000 : Int32) < n := fun z => hcond (Or.inr z)
            have h6 : n.toInt ≤ 100000 := by
              have := Int32.le_iff_toInt_le.mp (Int32.not_lt.mp h5)
              simpa using this
            show n.toInt.toNat ≤ 100000
            omega
          refine ⟨⟨by omega, by omega⟩, fun H locs ls hR hS hls h1 h2 => ?_⟩
          refine am_w_newa hexec hb hts hac hR hS hn0 hn1 (by rw [hrc]; omega) (by rw [hrs]; omega) hdg fun H1 locs1 hR1 hS1 => ?_
          have := hw H1 locs1 ls hR1 hS1 hls (by simp only [am_nwa]; omega) (by simp only [am_nwa]; omega)
          simp only [am_nwa] at this
          rw [show σ.1 - σ0.1 + 1 = σ.1 + 1 - σ0.1 by omega, show σ.2.2 - σ0.2.2 + n.toNatClampNeg = σ.2.2 + n.toNatClampNeg - σ0.2.2 by omega]
          exact this
      · cases h
    | _ => cases h
  | new i =>
    unfold am_step at h
    dsimp only at h hg
    obtain ⟨rfl, q, hq, hcl2, hin2, hini, hlen, hfs⟩ := hg
    obtain ⟨⟨hF1, hF2⟩, hw⟩ := hn _ _ _ h
    simp only [am_new] at hF1 hF2
    refine ⟨⟨by omega, by omega⟩, fun H locs ls hR hS hls h1 h2 => ?_⟩
    refine am_w_new hexec hb hts hown hK.1 hR hS hq hcl2 hin2 hini hlen hfs (by rw [hrc]; omega) (by rw [hrs]; omega) hdg fun H1 locs1 hR1 hS1 => ?_
    have := hw H1 locs1 ls hR1 hS1 hls (by simp only [am_new]; omega) (by simp only [am_new]; omega)
    simp only [am_new] at this
    rw [show σ.1 - σ0.1 + 1 = σ.1 + 1 - σ0.1 by omega, show σ.2.2 - σ0.2.2 + (am_dfl x).length = σ.2.2 + (am_dfl x).length - σ0.2.2 by omega]
    exact this
  | invokespecial i =>
    unfold am_step at h
    dsimp only at h hg
    obtain ⟨rfl, hg0, hg1⟩ := hg
    split at h
    · rename_i hz
      obtain ⟨w1, w2, w3⟩ := hg0 hz
      split at h
      · split at h
        · rename_i hsm
          obtain ⟨hF, hw⟩ := hn _ _ _ h
          refine ⟨hF, fun H locs ls hR hS hls h1 h2 => W.objInit hexec hb hown (hts _ w1) (hts _ w2) (hts _ w3) rfl (by rw [hml]; exact hls.1) rfl hdg (by rw [hfr]; omega) ?_ (hw H locs ls hR hS hls h1 h2)⟩
          have := am_small_ok hsm
          show 2 * 0 + _ + 12 ≤ _
          rw [hlo]
          omega
        · cases h
      · cases h
    · rename_i hz
      obtain ⟨M, hM, hce, hret, w1, w2, w3⟩ := hg1 hz
      exact am_inv_I X0 hM hce hret w1 w2 w3 hdg h fun st' σ' h' => hn _ _ _ h'
  | invokevirtual i =>
    unfold am_step at h
    dsimp only at h hg
    obtain ⟨rfl, M, hM, hce, ⟨q, hq, hcq⟩, w1, w2, w3⟩ := hg
    exact am_inv_V X0 hM hce hq hcq w1 w2 w3 hdg h fun st' σ' h' => hn _ _ _ h'
  | invokestatic i =>
    unfold am_step at h
    dsimp only at h hg
    obtain ⟨rfl, hg5, hg6, hg7, hgM⟩ := hg
    split at h
    · rename_i hz
      obtain ⟨w1, w2, w3, w4⟩ := hg5 hz
      split at h
      · split at h
        · rename_i hsm
          obtain ⟨hF, hw⟩ := hn _ _ _ h
          have hs8 := am_small_ok hsm
          exact ⟨hF, fun H locs ls hR hS hls h1 h2 => va_mmax hexec hb (by rw [hml]; exact hls.1.symm) hown (hts _ w1) (hts _ w2) (hts _ w3) (hts _ w4) (by rw [hfr]; omega) (by rw [hlo]; omega) (by rw [hrc]; omega) (by rw [hrs]; omega) hdg (hw H locs ls hR hS hls h1 h2)⟩
        · cases h
      · cases h
    · rename_i hz5
      split at h
      · rename_i hz
        obtain ⟨w1, w2, w3, w4⟩ := hg6 hz
        split at h
        · split at h
          · rename_i hsm
            obtain ⟨hF, hw⟩ := hn _ _ _ h
            have hs8 := am_small_ok hsm
            exact ⟨hF, fun H locs ls hR hS hls h1 h2 => va_mmin hexec hb (by rw [hml]; exact hls.1.symm) hown (hts _ w1) (hts _ w2) (hts _ w3) (hts _ w4) (by rw [hfr]; omega) (by rw [hlo]; omega) (by rw [hrc]; omega) (by rw [hrs]; omega) hdg (hw H locs ls hR hS hls h1 h2)⟩
          · cases h
        · cases h
      · rename_i hz6
        split at h
        · rename_i hz
          obtain ⟨w1, w2, w3, w4⟩ := hg7 hz
          split at h
          · split at h
            · rename_i hsm
              obtain ⟨σ', hv, h⟩ := Option.bind_eq_some_iff.mp h
              obtain ⟨x9, y9, ho, ho2, hB0, hBa, k1, k2, k3, k4, k5, rfl⟩ := am_cpy_ok hv
              obtain ⟨hF, hw⟩ := hn _ _ _ h
              have hs8 := am_small_ok hsm
              refine ⟨hF, fun H locs ls hR hS hls h1 h2 => am_w_cpy hexec hb (by rw [hml]; exact hls.1.symm) hown hts w1 w2 w3 w4 hR hS ho ho2 hB0 hBa k1 k2 k3 k4 k5 (by rw [hfr]; omega) ?_ hdg fun H1 locs1 hR1 hS1 => hw H1 locs1 ls hR1 hS1 hls h1 h2⟩
              have : nativeFrameWords "java/lang/System" "arraycopy" 5 ≤ 40 := by decide +kernel
              rw [hlo]
              omega
            · cases h
          · cases h
        · rename_i hz7
          obtain ⟨M, hM, hce, w1, w2⟩ := hgM hz5 hz6 hz7
          exact am_inv_S X0 hM hce w1 w2 hdg h fun st' σ' h' => hn _ _ _ h'
  | _ => cases h
end AMV
end
section
/-! stretches, runs, calls -/
def am_chain : List am_I → Prop
  | [] => True
  | [_] => True
  | e :: e' :: r => (e.2.2.2.1 = 1 ∨ e'.1 = e.1 + e.2.2.1) ∧ am_chain (e' :: r)
theorem am_chain_suffix : ∀ {code cur : List am_I}, cur <:+ code → am_chain code → am_chain cur := by
  intro code
  induction code with
  | nil =>
    intro cur h _
    rw [List.suffix_nil.mp h]
    trivial
  | cons e r ih =>
    intro cur h hc
    rcases List.suffix_cons_iff.mp h with h | h
    · rw [h]; exact hc
    · refine ih h ?_
      cases r with
      | nil => trivial
      | cons e' r' => exact hc.2
theorem am_dw_head : ∀ {code : List am_I} {pc : Nat} {e : am_I} {r : List am_I}, code.dropWhile (fun e' => e'.1 != pc) = e :: r → e.1 = pc := by
  intro code
  induction code with
  | nil => intro pc e r h; cases h
  | cons a l ih =>
    intro pc e r h
    rw [List.dropWhile_cons] at h
    split at h
    · exact ih h
    · rename_i hne
      cases h
      simpa using hne
theorem am_keep_mem {L : am_L} : ∀ {n i m : Nat} {L' : am_L}, am_keep L i n m = some L' → ∀ q ∈ L', q ∈ L := by
  intro n
  induction n with
  | zero => intro i m L' h q hq; cases h; cases hq
  | succ n ih =>
    intro i m L' h q hq
    unfold am_keep at h
    split at h
    · exact ih h q hq
    · obtain ⟨v, hv, h⟩ := Option.bind_eq_some_iff.mp h
      obtain ⟨r, hr, h⟩ := Option.bind_eq_some_iff.mp h
      cases h
      rcases List.mem_cons.mp hq with rfl | hq
      · exact am_lk_mem hv
      · exact ih hr q hq
/-- the heap only grows -/
def am_le (σ σ' : am_S) : Prop := σ.1 ≤ σ'.1 ∧ σ.2.2 ≤ σ'.2.2
theorem am_le.rf {σ : am_S} : am_le σ σ := ⟨Nat.le_refl _, Nat.le_refl _⟩
theorem am_le.tr {a b c : am_S} (h : am_le a b) (k : am_le b c) : am_le a c := ⟨Nat.le_trans h.1 k.1, Nat.le_trans h.2 k.2⟩
theorem am_put_le {B : Nat} {σ σ' : am_S} {a ci k : Nat} {v : Value} (h : am_put B σ a ci k v = some σ') : am_le σ σ' := by
  obtain ⟨fs, -, -, -, rfl⟩ := am_put_ok h
  exact am_le.rf
theorem am_iast_le {B : Nat} {σ σ' : am_S} {a : Nat} {i v : Int32} (h : am_iast B σ a i v = some σ') : am_le σ σ' := by
  obtain ⟨y, -, -, -, rfl⟩ := am_iast_ok h
  exact am_le.rf
theorem am_cpy_le {B : Nat} {σ σ' : am_S} {a0 a : Nat} {sp dp n : Int32} (h : am_cpy B σ a0 sp a dp n = some σ') : am_le σ σ' := by
  obtain ⟨x, y, -, -, -, -, -, -, -, -, -, rfl⟩ := am_cpy_ok h
  exact am_le.rf
section AMM
variable {B : Nat} {sa : Nat → Nat} {dfl : Nat → List Value} {cl : am_F}
set_option maxHeartbeats 4000000 in
theorem am_step_mono {α : Type} (hcl : ∀ mi as σ v σ', cl mi as σ = some (v, σ') → am_le σ σ') {r : am_I} {L : am_L} {st : List Value} {σ : am_S} {nx : am_L → List Value → am_S → Option α} {jp : Nat → am_L → List Value → am_S → Option α} {o : α} {P : Prop}
    (h : am_step B sa dfl cl r L st σ nx jp = some o) (hn : ∀ L' st' σ', am_le σ σ' → nx L' st' σ' = some o → P) (hj : ∀ pc' L' st' σ', am_le σ σ' → jp pc' L' st' σ' = some o → P) : P := by
  have hback : ∀ {kind : Nat} {mi : Nat} {as : List Value} {rest : List Value}, am_back kind (cl mi as σ) rest (nx L) = some o → P := by
    intro kind mi as rest h
    obtain ⟨v, σ', hr, hnx⟩ := am_back_ok h
    exact hn _ _ _ (hcl _ _ _ _ _ hr) hnx
  obtain ⟨pc, ins, len, stop, x, y, z⟩ := r
  cases ins with
  | getfield i =>
    unfold am_step at h
    dsimp only at h
    split at h
    · split at h
      · obtain ⟨v, hv, h⟩ := Option.bind_eq_some_iff.mp h
        exact hn _ _ _ am_le.rf h
      · obtain ⟨v, hv, h⟩ := Option.bind_eq_some_iff.mp h
        exact hn _ _ _ am_le.rf h
    · cases h
  | putfield i =>
    unfold am_step at h
    dsimp only at h
    split at h
    · split at h
      · obtain ⟨v, hv, h⟩ := Option.bind_eq_some_iff.mp h
        exact hn _ _ _ (am_put_le hv) h
      · split at h
        · split at h
          · obtain ⟨v, hv, h⟩ := Option.bind_eq_some_iff.mp h
            exact hn _ _ _ (am_put_le hv) h
          · cases h
        · cases h
    · split at h
      · obtain ⟨v, hv, h⟩ := Option.bind_eq_some_iff.mp h
        exact hn _ _ _ (am_put_le hv) h
      · cases h
    · cases h
  | iaload =>
    unfold am_step at h
    dsimp only at h
    split at h
    · obtain ⟨v, hv, h⟩ := Option.bind_eq_some_iff.mp h
      exact hn _ _ _ am_le.rf h
    · cases h
  | arraylength =>
    unfold am_step at h
    dsimp only at h
    split at h
    · obtain ⟨v, hv, h⟩ := Option.bind_eq_some_iff.mp h
      exact hn _ _ _ am_le.rf h
    · cases h
  | iastore =>
    unfold am_step at h
    dsimp only at h
    split at h
    · obtain ⟨v, hv, h⟩ := Option.bind_eq_some_iff.mp h
      exact hn _ _ _ (am_iast_le hv) h
    · cases h
  | newarray ty =>
    unfold am_step at h
    dsimp only at h
    cases ty with
    | int =>
      dsimp only at h
      split at h
      · split at h
        · cases h
        · exact hn _ _ _ ⟨Nat.le_succ _, Nat.le_add_right _ _⟩ h
      · cases h
    | _ => cases h
  | new i =>
    unfold am_step at h
    dsimp only at h
    exact hn _ _ _ ⟨Nat.le_succ _, Nat.le_add_right _ _⟩ h
  | tableswitch dflt lo hi offs =>
    unfold am_step at h
    dsimp only at h
    split at h
    · rcases am_sw_ok (P := fun w => w = some o) _ _ _ _ h with ⟨h1, h2⟩ | ⟨i, of, h1, h2, h3⟩
      · exact hj _ _ _ _ am_le.rf h2
      · exact hj _ _ _ _ am_le.rf h3
    · cases h
  | invokespecial i =>
    unfold am_step at h
    dsimp only at h
    split at h
    · split at h
      · split at h
        · exact hn _ _ _ am_le.rf h
        · cases h
      · cases h
    · unfold am_invI at h
      split at h
      · cases h
      · split at h
        · split at h
          · exact hback h
          · cases h
        · cases h
  | invokevirtual i =>
    unfold am_step at h
    dsimp only at h
    unfold am_invV at h
    split at h
    · cases h
    · split at h
      · split at h
        · obtain ⟨v, hv, h⟩ := Option.bind_eq_some_iff.mp h
          exact hback h
        · cases h
      · cases h
  | invokestatic i =>
    unfold am_step at h
    dsimp only at h
    split at h
    · split at h
      · split at h
        · exact hn _ _ _ am_le.rf h
        · cases h
      · cases h
    · split at h
      · split at h
        · split at h
          · exact hn _ _ _ am_le.rf h
          · cases h
        · cases h
      · split at h
        · split at h
          · split at h
            · obtain ⟨v, hv, h⟩ := Option.bind_eq_some_iff.mp h
              exact hn _ _ _ (am_cpy_le hv) h
            · cases h
          · cases h
        · unfold am_inv at h
          split at h
          · cases h
          · split at h
            · exact hback h
            · cases h
  | _ =>
    unfold am_step at h
    dsimp only at h
    repeat' (first | exact hn _ _ _ am_le.rf h | exact hj _ _ _ _ am_le.rf h | (cases h; done) | split at h)
theorem am_blk_mono (hcl : ∀ mi as σ v σ', cl mi as σ = some (v, σ') → am_le σ σ') {code : List am_I} : ∀ (g : Nat) (cur : List am_I) (L : am_L) (st : List Value) (σ : am_S) (o : am_O), am_blk B sa dfl cl code g cur L st σ = some o → am_le σ o.2.2.2 := by
  intro g
  induction g with
  | zero => intro cur L st σ o h; cases h
  | succ g ih =>
    intro cur L st σ o h
    cases cur with
    | nil => cases h
    | cons e rest =>
      unfold am_blk at h
      refine am_step_mono hcl h (fun L' st' σ' hle hx => ?_) (fun pc' L' st' σ' hle hx => ?_)
      · split at hx
        · cases hx
        · split at hx
          · exact hle.tr (ih _ _ _ _ _ hx)
          · cases hx; exact hle
      · split at hx
        · cases hx
        · split at hx
          · exact hle.tr (ih _ _ _ _ _ hx)
          · cases hx; exact hle
theorem am_exec_mono (hcl : ∀ mi as σ v σ', cl mi as σ = some (v, σ') → am_le σ σ') {code : List am_I} : ∀ (f pc : Nat) (L : am_L) (st : List Value) (σ : am_S) (o : Nat × List Value × am_S), am_exec B sa dfl cl code f pc L st σ = some o → am_le σ o.2.2 := by
  intro f
  induction f with
  | zero => intro pc L st σ o h; cases h
  | succ f ih =>
    intro pc L st σ o h
    unfold am_exec at h
    obtain ⟨o', ho, h⟩ := Option.bind_eq_some_iff.mp h
    have hm := am_blk_mono hcl _ _ _ _ _ _ ho
    split at h
    · cases h
    · split at h
      · cases h; exact hm
      · obtain ⟨L', -, h⟩ := Option.bind_eq_some_iff.mp h
        exact hm.tr (ih _ _ _ _ _ h)
theorem am_end_st {code : List am_I} {o : Nat × List Value × am_S} {q : Option Value × am_S} (h : am_end code o = some q) : q.2 = o.2.2 := by
  unfold am_end at h
  split at h
  · cases h
  · split at h
    · split at h
      · cases h; rfl
      · cases h
    · cases h; rfl
    · cases h; rfl
    · cases h; rfl
    · cases h
theorem am_call_mono {tb : Nat → Option am_M} {f : Nat} : ∀ (d mi : Nat) (as : List Value) (σ : am_S) (v : Option Value) (σ' : am_S), am_call B sa dfl tb f d mi as σ = some (v, σ') → am_le σ σ' := by
  intro d
  induction d with
  | zero => intro mi as σ v σ' h; cases h
  | succ d ih =>
    intro mi as σ v σ' h
    unfold am_call at h
    obtain ⟨M, -, h⟩ := Option.bind_eq_some_iff.mp h
    split at h
    · cases h
    · obtain ⟨o, ho, h⟩ := Option.bind_eq_some_iff.mp h
      have h1 := am_exec_mono ih _ _ _ _ _ _ ho
      have h2 := am_end_st h
      dsimp only at h2
      rw [h2]
      exact h1
end AMM
end
section
/-! THE SOUNDNESS of the abstract machine: what it computes of a method, the machine does -/
/-- what is checked of a row that ends a method -/
def am_term (cc : ByteArray) (ret : Option FieldType) (r : am_I) : Prop := match r.2.1 with
  | .ireturn => decode cc r.1 = .ok (.ireturn, 1) ∧ (r.2.2.2.2.1 = 0 → ret = some .int) ∧ (r.2.2.2.2.1 ≠ 0 → ret = some .boolean)
  | .areturn => decode cc r.1 = .ok (.areturn, 1) ∧ ∃ rt, ret = some rt ∧ ((∃ n, rt = .object n) ∨ ∃ t, rt = .array t)
  | .return_ => decode cc r.1 = .ok (.return_, 1) ∧ ret = none
  | _ => True
/-- what is checked of a method -/
def am_okM (tb : Nat → Option am_M) (M : am_M) : Prop :=
  (∀ r ∈ M.2.2.2.2, r.2.2.2.1 ≠ 1 → am_good tb M.1.cls M.1.name M.2.2.1 M.2.1 r) ∧ (∀ r ∈ M.2.2.2.2, r.2.2.2.1 = 1 → am_term M.2.1 M.2.2.2.1 r) ∧ am_chain M.2.2.2.2 ∧ (∀ e r, M.2.2.2.2.dropWhile (fun e' => e'.1 != 0) = e :: r → e.2.2.2.1 ≠ 1) ∧ plainName M.1.cls = true
theorem am_exec_stop {B : Nat} {sa : Nat → Nat} {dfl : Nat → List Value} {cl : am_F} {code : List am_I} : ∀ (f pc : Nat) (L : am_L) (st : List Value) (σ : am_S) (o : Nat × List Value × am_S), am_exec B sa dfl cl code f pc L st σ = some o → ∃ e r, code.dropWhile (fun e' => e'.1 != o.1) = e :: r ∧ e.2.2.2.1 = 1 := by
  intro f
  induction f with
  | zero => intro pc L st σ o h; cases h
  | succ f ih =>
    intro pc L st σ o h
    unfold am_exec at h
    obtain ⟨o', ho, h⟩ := Option.bind_eq_some_iff.mp h
    split at h
    · cases h
    · rename_i e' r' hd
      split at h
      · rename_i h1
        cases h
        exact ⟨e', r', hd, h1⟩
      · obtain ⟨L', -, h⟩ := Option.bind_eq_some_iff.mp h
        exact ih _ _ _ _ _ h
section AMZ
variable {p : Program} {l : Launch} {e : Env} {R : Room} {s : State} {m : MethodId} {args : Array Value} {below : List Frame} {meth : Method} {c : Code} {Q : State → Prop} {D : va_G} {B : Nat} {sa : Nat → Nat} {cc : ByteArray} {nL d : Nat} {own nm : String} {σ0 σF : am_S} {tb : Nat → Option am_M} {cl : am_F}
theorem am_blk_ok (X : am_X p l R s m args meth c D B sa cc nL d own nm σ0 σF tb cl) {code : List am_I} (hgood : ∀ r ∈ code, r.2.2.2.1 ≠ 1 → am_good tb own nm nL cc r) (hch : am_chain code) (o : am_O) (hstop : am_Gd p l e R s m args below meth c Q D B nL σ0 σF o.1 o.2.1 o.2.2.1 o.2.2.2) :
    ∀ (g : Nat) (a : am_I) (rest : List am_I) (L : am_L) (st : List Value) (σ : am_S), (a :: rest) <:+ code → a.2.2.2.1 ≠ 1 → am_blk B sa am_dfl cl code g (a :: rest) L st σ = some o → am_Gd p l e R s m args below meth c Q D B nL σ0 σF a.1 L st σ := by
  intro g
  induction g with
  | zero => intro a rest L st σ _ _ h; cases h
  | succ g ih =>
    intro a rest L st σ hsuf hns h
    unfold am_blk at h
    have hmem : a ∈ code := hsuf.subset List.mem_cons_self
    refine am_step_ok X (hgood a hmem hns) h (fun L' st' σ' hx => ?_) (fun pc' L' st' σ' hx => ?_)
    · split at hx
      · cases hx
      · rename_i e' r'
        have hc1 := (am_chain_suffix hsuf hch).1
        have hpc : e'.1 = a.1 + a.2.2.1 := hc1.resolve_left hns
        split at hx
        · rename_i hz
          have := ih e' r' L' st' σ' ((List.suffix_cons _ _).trans hsuf) (by rw [hz]; decide) hx
          rw [hpc] at this
          exact this
        · cases hx
          rw [← hpc]
          exact hstop
    · split at hx
      · cases hx
      · rename_i e' r' hd
        have hpc := am_dw_head hd
        split at hx
        · rename_i hz
          have hsuf2 : (e' :: r') <:+ code := by rw [← hd]; exact List.dropWhile_suffix _
          have := ih e' r' L' st' σ' hsuf2 (by rw [hz]; decide) hx
          rw [hpc] at this
          exact this
        · cases hx
          rw [← hpc]
          exact hstop
theorem am_exec_ok (X : am_X p l R s m args meth c D B sa cc nL d own nm σ0 σF tb cl) {code : List am_I} (hgood : ∀ r ∈ code, r.2.2.2.1 ≠ 1 → am_good tb own nm nL cc r) (hch : am_chain code) (o : Nat × List Value × am_S) (hend : ∀ L', am_Gd p l e R s m args below meth c Q D B nL σ0 σF o.1 L' o.2.1 o.2.2) :
    ∀ (f pc : Nat) (L : am_L) (st : List Value) (σ : am_S), (∀ e r, code.dropWhile (fun e' => e'.1 != pc) = e :: r → e.2.2.2.1 ≠ 1) → am_exec B sa am_dfl cl code f pc L st σ = some o → am_Gd p l e R s m args below meth c Q D B nL σ0 σF pc L st σ := by
  intro f
  induction f with
  | zero => intro pc L st σ _ h; cases h
  | succ f ih =>
    intro pc L st σ hns h
    unfold am_exec at h
    obtain ⟨o', ho, h⟩ := Option.bind_eq_some_iff.mp h
    cases hd : code.dropWhile (fun e' => e'.1 != pc) with
    | nil =>
      rw [hd] at ho
      cases hlen : code.length with
      | zero => rw [hlen] at ho; cases ho
      | succ n => rw [hlen] at ho; cases ho
    | cons a rest =>
      rw [hd] at ho
      have hpc := am_dw_head hd
      have hsuf : (a :: rest) <:+ code := by rw [← hd]; exact List.dropWhile_suffix _
      have key : am_Gd p l e R s m args below meth c Q D B nL σ0 σF o'.1 o'.2.1 o'.2.2.1 o'.2.2.2 := by
        split at h
        · cases h
        · rename_i e' r' hd2
          split at h
          · cases h
            exact hend _
          · rename_i hne
            obtain ⟨L', hk, h⟩ := Option.bind_eq_some_iff.mp h
            have h3 := ih _ _ _ _ (fun e2 r2 h2 => by rw [hd2] at h2; cases h2; exact hne) h
            refine ⟨h3.1, fun H locs ls hR hS hls h1 h2 => ?_⟩
            exact h3.2 H locs ls hR hS ⟨hls.1, hls.2.1, fun q hq => hls.2.2 q (am_keep_mem hk q hq)⟩ h1 h2
      have := am_blk_ok X hgood hch o' key _ a rest L st σ hsuf (hns a rest hd) ho
      rw [hpc] at this
      exact this
set_option maxHeartbeats 4000000 in
theorem am_call_ok (l : Launch) (D : va_G) (B : Nat) (sa : Nat → Nat) (tb : Nat → Option am_M) (hok : ∀ mi M, tb mi = some M → am_okM tb M) (f : Nat) : ∀ (d mi : Nat) (as : List Value) (σ : am_S) (v : Option Value) (σ' : am_S), am_call B sa am_dfl tb f d mi as σ = some (v, σ') → ∀ M, tb mi = some M → am_Ct l D B sa M d as σ v σ' := by
  intro d
  induction d with
  | zero => intro mi as σ v σ' h; cases h
  | succ d ih =>
    intro mi as σ v σ' h M hM
    unfold am_call at h
    rw [hM] at h
    simp only [Option.bind_some] at h
    split at h
    · cases h
    · rename_i hlen
      obtain ⟨o, ho, hend⟩ := Option.bind_eq_some_iff.mp h
      obtain ⟨hgood, hterm, hch, hfirst, hplain⟩ := hok mi M hM
      unfold am_Ct
      refine Met.ofW (cc := M.2.1) (maxL := M.2.2.1) (ret := M.2.2.2.1) hplain rfl ?_
      intro p e s m args below meth c s₁ Bd hml hv
      obtain ⟨rfl, hR, hK⟩ := hv
      have hexec := Bd.exec
      have hb := Bd.bytes
      have hr := Bd.returns
      have hlocks := Bd.notSynchronized
      have hts0 := atoms_spec (ws := .code M.1 M.2.1 M.2.2.1 M.2.2.2.1 :: am_W) Bd.pre
      have hts : ∀ w ∈ am_W, w.before as.toArray s = true := fun w hw => hts0 w (List.mem_cons_of_mem _ hw)
      have hown : s.vm.findClass M.1.cls = some m.cls := findClass_of_methodNamed Bd.named
      have hnm : meth.name = M.1.name := (name_of_methodNamed Bd.named Bd.method).1
      have hst := am_end_st hend
      dsimp only at hst
      have X : am_X p l (headSpec (.code M.1 M.2.1 M.2.2.1 M.2.2.2.1 :: am_W) { frames := d + 1, cells := σ'.1 - σ.1, slots := σ'.2.2 - σ.2.2, locals := 64 * (d + 1) }).room s m as.toArray meth c D B sa M.2.1 M.2.2.1 d M.1.cls M.1.name σ σ' tb (am_call B sa am_dfl tb f d) :=
        ⟨⟨hexec, hb, hml, hown, hnm⟩, hts, hK, ⟨rfl, rfl, rfl, rfl⟩, fun mi as σ v σ' h => ⟨am_call_mono d mi as σ v σ' h, ih mi as σ v σ' h⟩⟩
      have hl := lv_entry as (n := M.2.2.1) (Nat.not_lt.mp hlen)
      rw [lg_entry_eq]
      have hG := am_exec_ok (e := e) (below := below) (Q := MQ below (am_Post D B σ' v) as.toArray s (σ'.1 - σ.1) (σ'.2.2 - σ.2.2) (fun q => B ≤ q)) X hgood hch o ?_ f 0 (lv_args 0 as) [] σ hfirst ho
      · have := hG.2 s.heap [] _ hR va_S.rf hl (Nat.le_refl _) (Nat.le_refl _)
        rw [Nat.sub_self, Nat.sub_self] at this
        exact this
      · intro L'
        refine ⟨by rw [← hst]; exact ⟨Nat.le_refl _, Nat.le_refl _⟩, fun H locs ls hR1 hS1 hls h1 h2 => ?_⟩
        rw [← hst] at hR1 ⊢
        have post : ∀ t : State, t.heap = H → s.WarmedH t.vm → am_Post D B σ' v as.toArray s (.returned v) t := fun t ht hW => ⟨rfl, by rw [ht]; exact hR1.moved hW.alike, hS1.F ht⟩
        unfold am_end at hend
        split at hend
        · cases hend
        · rename_i e' r' hd
          have hpc := am_dw_head hd
          have hmem : e' ∈ M.2.2.2.2 := (List.dropWhile_suffix (l := M.2.2.2.2) (fun e' => e'.1 != o.1)).subset (by rw [hd]; exact List.mem_cons_self)
          have hone : e'.2.2.2.1 = 1 := by
            obtain ⟨e2, r2, h2, h3⟩ := am_exec_stop _ _ _ _ _ _ ho
            rw [hd] at h2
            cases h2
            exact h3
          have htm := hterm e' hmem hone
          unfold am_term at htm
          split at hend
          · rename_i v9 hi hs
            split at hend
            · rename_i hv9
              cases hend
              rw [hi] at htm
              obtain ⟨hdg, hint, hboo⟩ := htm
              rw [hs, ← hpc]
              by_cases hx : e'.2.2.2.2.1 = 0
              · exact W.iret hexec hb (hr.trans (hint hx)) post hS1.2.2 hdg
              · have h01 : v9 = 0 ∨ v9 = 1 := hv9.resolve_left hx
                exact W.zret (ty := .boolean) hexec hb (hr.trans (hboo hx)) (by rcases h01 with rfl | rfl <;> rfl) post hS1.2.2 hdg
            · cases hend
          · rename_i a9 hi hs
            cases hend
            rw [hi] at htm
            obtain ⟨hdg, rt, hrt, hk⟩ := htm
            rw [hs, ← hpc]
            exact W.aret hexec hb (hr.trans hrt) hk (Or.inr ⟨_, rfl⟩) post hS1.2.2 hdg
          · rename_i hi hs
            cases hend
            rw [hi] at htm
            obtain ⟨hdg, rt, hrt, hk⟩ := htm
            rw [hs, ← hpc]
            exact W.aret hexec hb (hr.trans hrt) hk (Or.inl rfl) post hS1.2.2 hdg
          · rename_i hi hs
            cases hend
            rw [hi] at htm
            obtain ⟨hdg, hrt⟩ := htm
            rw [hs, ← hpc]
            exact W.vret hexec hb (hr.trans hrt) post hS1.2.2 hdg
          · cases hend
end AMZ
end
section
/-! a program that checks a method's rows -/
def am_lw (w : Nat × Nat) (c : Cond) : Bool := decide (am_wd w = some c) && goodWord c
theorem am_lw_ok {w : Nat × Nat} {c : Cond} (h : am_lw w c = true) : c ∈ am_W := by
  unfold am_lw at h
  rw [Bool.and_eq_true] at h
  exact am_in (of_decide_eq_true h.1) h.2
/-- a link to a field: a word of the tables, or of the nest's -/
def am_lf (own : String) (i : Nat) (f : String × String × String × Bool) (w : Nat × Nat) : Bool :=
  if w.1 = 99 then (match am_NF[w.2]? with
    | some q => decide (q = (own, i, f.1, f.2.1, f.2.2.1, q.2.2.2.2.2))
    | none => false)
  else am_lw w (.fieldLink own i f.1 f.2.1 f.2.2.1)
theorem am_lf_ok {own : String} {i : Nat} {f : String × String × String × Bool} {w : Nat × Nat} (h : am_lf own i f w = true) : Cond.fieldLink own i f.1 f.2.1 f.2.2.1 ∈ am_W ∨ ∃ host, (own, i, f.1, f.2.1, f.2.2.1, host) ∈ am_NF := by
  unfold am_lf at h
  split at h
  · split at h
    · rename_i q hq
      have := of_decide_eq_true h
      refine Or.inr ⟨q.2.2.2.2.2, ?_⟩
      rw [← this]
      exact List.mem_of_getElem? hq
    · cases h
  · exact Or.inl (am_lw_ok h)
/-- a callee, by the places of its words: code, initialized, instanceMethod or static, selects (or any of them again) -/
def am_cal (M : am_M) (n : Nat) (isS : Bool) : Prop := am_callee M n ∧ (isS = true → Cond.static M.1 ∈ am_W) ∧ (isS = false → Cond.instanceMethod M.1 ∈ am_W) ∧ (isS = false → M.1.name ≠ "<init>" → Cond.selects M.1.cls M.1 M.1 ∈ am_W)
def am_ckc (M : am_M) (n : Nat) (isS : Bool) (w1 w2 w3 w4 : Nat × Nat) : Bool :=
  am_lw w1 (.code M.1 M.2.1 M.2.2.1 M.2.2.2.1) && am_lw w2 (.initialized M.1.cls) && decide (M.1.cls ≠ "java/lang/invoke/MethodHandle") && decide (M.1.cls ≠ "java/lang/invoke/VarHandle") && decide ((parseMethodDescriptor M.1.desc).map (fun d => d.parameters.length) = some n) && decide (M.2.2.1 ≤ 40) &&
  (if isS then am_lw w3 (.static M.1) else am_lw w3 (.instanceMethod M.1) && (decide (M.1.name = "<init>") || am_lw w4 (.selects M.1.cls M.1 M.1)))
theorem am_ckc_ok {M : am_M} {n : Nat} {isS : Bool} {w1 w2 w3 w4 : Nat × Nat} (h : am_ckc M n isS w1 w2 w3 w4 = true) : am_cal M n isS := by
  unfold am_ckc at h
  simp only [Bool.and_eq_true, decide_eq_true_eq] at h
  obtain ⟨⟨⟨⟨⟨⟨h1, h2⟩, h3⟩, h4⟩, h5⟩, h6⟩, h7⟩ := h
  refine ⟨⟨am_lw_ok h1, am_lw_ok h2, ⟨h3, h4, h5⟩, h6⟩, fun e => ?_, fun e => ?_, fun e hn => ?_⟩
  · rw [if_pos e] at h7
    exact am_lw_ok h7
  · rw [e] at h7
    simp only [Bool.false_eq_true, if_false, Bool.and_eq_true] at h7
    exact am_lw_ok h7.1
  · rw [e] at h7
    simp only [Bool.false_eq_true, if_false, Bool.and_eq_true, Bool.or_eq_true, decide_eq_true_eq] at h7
    exact am_lw_ok (h7.2.resolve_left hn)
/-- the words that are the same at every use -/
def am_base : Prop := (Cond.instanceMethod objectInit ∈ am_W ∧ Cond.code objectInit ⟨#[0xb1]⟩ 1 none ∈ am_W ∧ Cond.arrayClass .int ∈ am_W) ∧
  (Cond.static Lib.Math.max.name ∈ am_W ∧ Cond.initialized "java/lang/Math" ∈ am_W ∧ Cond.code Lib.Math.max.name Lib.Math.max.code 2 (some .int) ∈ am_W) ∧
  (Cond.static Lib.Math.min.name ∈ am_W ∧ Cond.code Lib.Math.min.name Lib.Math.min.code 2 (some .int) ∈ am_W) ∧
  (Cond.native arraycopyName ∈ am_W ∧ Cond.static arraycopyName ∈ am_W ∧ Cond.initialized "java/lang/System" ∈ am_W) ∧
  ∀ (x : Nat) (q : vw_C), vwCl[x]? = some q → Cond.instantiable q.1 q.2.2 ∈ am_W ∧ Cond.initialized q.1 ∈ am_W ∧ (am_dfl x).length = q.2.2 ∧ ∀ j, j < q.2.2 → (parseFieldDescriptor (q.2.1 j).2.2.1).map defaultValue = some (vp_V (am_dfl x) j)
/-- the methods' heads: number of arguments, static or not -/
abbrev am_Hd : Type := Nat → Option (Nat × Bool)
def am_ck (tb : Nat → Option am_M) (hd : am_Hd) (own nm : String) (nL : Nat) (cc : ByteArray) (r : am_I) (w : Nat × Nat) : Bool :=
  decide (decode cc r.1 = .ok (r.2.1, r.2.2.1)) && match r.2.1 with
  | .bipush _ => decide (r.2.2.1 = 2)
  | .iload _ => decide (r.2.2.1 = 2)
  | .aload _ => decide (r.2.2.1 = 2)
  | .sipush _ => decide (r.2.2.1 = 3)
  | .istore_n k => decide (r.2.2.1 = 1 ∧ k.val < nL)
  | .astore_n k => decide (r.2.2.1 = 1 ∧ k.val < nL)
  | .istore k => decide (r.2.2.1 = 2 ∧ k < nL)
  | .astore k => decide (r.2.2.1 = 2 ∧ k < nL)
  | .iinc k _ => decide (r.2.2.1 = 3 ∧ k < nL)
  | .ldc i => decide (r.2.2.1 = 2) && am_lw w (.constant own i (Int32.ofNat r.2.2.2.2.1))
  | .ldc_w i => decide (r.2.2.1 = 3) && am_lw w (.constant own i (Int32.ofNat r.2.2.2.2.1))
  | .goto o => decide (r.2.2.1 = 3 ∧ (r.1 : Int) + o = (r.2.2.2.2.1 : Int))
  | .if_icmp _ o => decide (r.2.2.1 = 3 ∧ (r.1 : Int) + o = (r.2.2.2.2.1 : Int))
  | .ifCond _ o => decide (r.2.2.1 = 3 ∧ (r.1 : Int) + o = (r.2.2.2.2.1 : Int))
  | .ifnull o => decide (r.2.2.1 = 3 ∧ (r.1 : Int) + o = (r.2.2.2.2.1 : Int))
  | .ifnonnull o => decide (r.2.2.1 = 3 ∧ (r.1 : Int) + o = (r.2.2.2.2.1 : Int))
  | .tableswitch dflt lo hi offs => decide (hi = lo + offs.size - 1 ∧ 0 ≤ (r.1 : Int) + dflt ∧ ∀ o ∈ offs.toList, 0 ≤ (r.1 : Int) + o)
  | .getfield i => decide (r.2.2.1 = 3) && (match vwCl[r.2.2.2.2.1]? with
    | some q => decide (r.2.2.2.2.2.1 < q.2.2) && am_lf own i (q.2.1 r.2.2.2.2.2.1) w
    | none => false)
  | .putfield i => decide (r.2.2.1 = 3) && (match vwCl[r.2.2.2.2.1]? with
    | some q => (match parseFieldDescriptor (q.2.1 r.2.2.2.2.2.1).2.2.1 with
      | some ty => (if r.2.2.2.2.2.2 % 3 = 0 then decide (ty = .int) else if r.2.2.2.2.2.2 % 3 = 2 then decide (ty = .boolean) else (match ty with
          | .object _ => true
          | .array _ => true
          | _ => false)) && (if (q.2.1 r.2.2.2.2.2.1).2.2.2 then decide (nm = "<init>" ∧ (q.2.1 r.2.2.2.2.2.1).1 = own) && am_lw w (.fieldLink own i (q.2.1 r.2.2.2.2.2.1).1 (q.2.1 r.2.2.2.2.2.1).2.1 (q.2.1 r.2.2.2.2.2.1).2.2.1) else am_lf own i (q.2.1 r.2.2.2.2.2.1) w)
      | none => false)
    | none => false)
  | .getstatic i => decide (r.2.2.1 = 3) && (match am_SF r.2.2.2.2.1 with
    | some q => am_lw w (.fieldLink own i q.1 q.2.1 q.2.2)
    | none => false)
  | .newarray .int => decide (r.2.2.1 = 2)
  | .new i => decide (r.2.2.1 = 3) && (match vwCl[r.2.2.2.2.1]? with
    | some q => am_lw w (.classLink own i q.1)
    | none => false)
  | .invokespecial i => decide (r.2.2.1 = 3) && (if r.2.2.2.2.2.2 = 0 then am_lw w (.methodLink own i objectInit) else (match tb r.2.2.2.2.1 with
    | some M => decide (hd r.2.2.2.2.1 = some (r.2.2.2.2.2.1, false)) && decide (M.2.2.2.1 = none) && am_lw w (.methodLink own i M.1) && decide (M.1.name = "<init>")
    | none => false))
  | .invokevirtual i => decide (r.2.2.1 = 3) && (match tb r.2.2.2.2.1, vwCl[r.2.2.2.2.2.2 / 100]? with
    | some M, some q => decide (hd r.2.2.2.2.1 = some (r.2.2.2.2.2.1, false)) && decide (q.1 = M.1.cls) && decide (M.1.name ≠ "<init>") && am_lw w (.methodLink own i M.1)
    | _, _ => false)
  | .invokestatic i => decide (r.2.2.1 = 3) && (if r.2.2.2.2.2.2 = 5 then am_lw w (.methodLink own i Lib.Math.max.name) else if r.2.2.2.2.2.2 = 6 then am_lw w (.methodLink own i Lib.Math.min.name) else if r.2.2.2.2.2.2 = 7 then am_lw w (.methodLink own i arraycopyName) else (match tb r.2.2.2.2.1 with
    | some M => decide (hd r.2.2.2.2.1 = some (r.2.2.2.2.2.1, true)) && (if w.1 = 99 then (match am_NM[w.2]? with
        | some q => decide (q = (own, i, M.1, q.2.2.2))
        | none => false) else am_lw w (.methodLink own i M.1))
    | none => false))
  | _ => decide (r.2.2.1 = 1)
set_option maxHeartbeats 4000000 in
theorem am_ck_ok {tb : Nat → Option am_M} {hd : am_Hd} (hb : am_base) (hcal : ∀ x M n isS, tb x = some M → hd x = some (n, isS) → am_cal M n isS) {own nm : String} {nL : Nat} {cc : ByteArray} {r : am_I} {w : Nat × Nat} (h : am_ck tb hd own nm nL cc r w = true) : am_good tb own nm nL cc r := by
  unfold am_ck at h
  rw [Bool.and_eq_true] at h
  obtain ⟨h0, h⟩ := h
  refine ⟨of_decide_eq_true h0, ?_⟩
  obtain ⟨pc, ins, len, stop, x, y, z⟩ := r
  obtain ⟨⟨b1, b2, b3⟩, ⟨b4, b5, b6⟩, ⟨b7, b8⟩, ⟨b9, b10, b11⟩, bC⟩ := hb
  dsimp only at h ⊢
  cases ins with
  | ldc i => rw [Bool.and_eq_true] at h; exact ⟨of_decide_eq_true h.1, am_lw_ok h.2⟩
  | ldc_w i => rw [Bool.and_eq_true] at h; exact ⟨of_decide_eq_true h.1, am_lw_ok h.2⟩
  | getfield i =>
    rw [Bool.and_eq_true] at h
    obtain ⟨h1, h⟩ := h
    split at h
    · rename_i q hq
      rw [Bool.and_eq_true] at h
      exact ⟨of_decide_eq_true h1, q, hq, of_decide_eq_true h.1, am_lf_ok h.2⟩
    · cases h
  | putfield i =>
    rw [Bool.and_eq_true] at h
    obtain ⟨h1, h⟩ := h
    split at h
    · rename_i q hq
      split at h
      · rename_i ty hty
        rw [Bool.and_eq_true] at h
        obtain ⟨h2, h3⟩ := h
        refine ⟨of_decide_eq_true h1, q, ty, hq, hty, fun e => ?_, fun e => ?_, fun e => ?_, ?_⟩
        · rw [if_pos e] at h2
          exact of_decide_eq_true h2
        · rw [if_neg (by omega), if_pos e] at h2
          exact of_decide_eq_true h2
        · rw [if_neg (by omega), if_neg (by omega)] at h2
          split at h2
          · exact Or.inl ⟨_, rfl⟩
          · exact Or.inr ⟨_, rfl⟩
          · cases h2
        · split at h3
          · rename_i hf
            rw [Bool.and_eq_true] at h3
            obtain ⟨h4, h5⟩ := h3
            have := of_decide_eq_true h4
            exact Or.inr ⟨hf, this.1, this.2, am_lw_ok h5⟩
          · rename_i hf
            exact Or.inl ⟨by simpa using hf, am_lf_ok h3⟩
      · cases h
    · cases h
  | getstatic i =>
    rw [Bool.and_eq_true] at h
    obtain ⟨h1, h⟩ := h
    split at h
    · rename_i q hq
      exact ⟨of_decide_eq_true h1, q, hq, am_lw_ok h⟩
    · cases h
  | newarray ty =>
    cases ty with
    | int => exact ⟨of_decide_eq_true h, b3⟩
    | _ => exact of_decide_eq_true h
  | new i =>
    rw [Bool.and_eq_true] at h
    obtain ⟨h1, h⟩ := h
    split at h
    · rename_i q hq
      obtain ⟨c1, c2, c3, c4⟩ := bC _ _ hq
      exact ⟨of_decide_eq_true h1, q, hq, am_lw_ok h, c1, c2, c3, c4⟩
    · cases h
  | invokespecial i =>
    rw [Bool.and_eq_true] at h
    obtain ⟨h1, h⟩ := h
    refine ⟨of_decide_eq_true h1, fun e => ?_, fun e => ?_⟩
    · rw [if_pos e] at h
      exact ⟨am_lw_ok h, b1, b2⟩
    · rw [if_neg e] at h
      split at h
      · rename_i M hM
        simp only [Bool.and_eq_true, decide_eq_true_eq] at h
        obtain ⟨⟨⟨h2, h3⟩, h4⟩, h5⟩ := h
        obtain ⟨c1, c2, c3, c4⟩ := hcal _ _ _ _ hM h2
        exact ⟨M, hM, c1, h3, am_lw_ok h4, c3 rfl, h5⟩
      · cases h
  | invokevirtual i =>
    rw [Bool.and_eq_true] at h
    obtain ⟨h1, h⟩ := h
    split at h
    · rename_i M q hM hq
      simp only [Bool.and_eq_true, decide_eq_true_eq] at h
      obtain ⟨⟨⟨h2, h3⟩, h4⟩, h5⟩ := h
      obtain ⟨c1, c2, c3, c4⟩ := hcal _ _ _ _ hM h2
      exact ⟨of_decide_eq_true h1, M, hM, c1, ⟨q, hq, h3⟩, am_lw_ok h5, c3 rfl, c4 rfl h4⟩
    · cases h
  | invokestatic i =>
    rw [Bool.and_eq_true] at h
    obtain ⟨h1, h⟩ := h
    refine ⟨of_decide_eq_true h1, fun e => ?_, fun e => ?_, fun e => ?_, fun e5 e6 e7 => ?_⟩
    · rw [if_pos e] at h
      exact ⟨am_lw_ok h, b4, b5, b6⟩
    · rw [if_neg (by omega), if_pos e] at h
      exact ⟨am_lw_ok h, b7, b5, b8⟩
    · rw [if_neg (by omega), if_neg (by omega), if_pos e] at h
      exact ⟨am_lw_ok h, b9, b10, b11⟩
    · rw [if_neg e5, if_neg e6, if_neg e7] at h
      split at h
      · rename_i M hM
        rw [Bool.and_eq_true] at h
        obtain ⟨h2, h3⟩ := h
        obtain ⟨c1, c2, c3, c4⟩ := hcal _ _ _ _ hM (of_decide_eq_true h2)
        refine ⟨M, hM, c1, c2 rfl, ?_⟩
        split at h3
        · split at h3
          · rename_i q hq
            have := of_decide_eq_true h3
            refine Or.inr ⟨q.2.2.2, ?_⟩
            rw [← this]
            exact List.mem_of_getElem? hq
          · cases h3
        · exact Or.inl (am_lw_ok h3)
      · cases h
  | _ => exact of_decide_eq_true h
def am_ckt (cc : ByteArray) (ret : Option FieldType) (r : am_I) : Bool := match r.2.1 with
  | .ireturn => decide (decode cc r.1 = .ok (.ireturn, 1)) && (if r.2.2.2.2.1 = 0 then decide (ret = some .int) else decide (ret = some .boolean))
  | .areturn => decide (decode cc r.1 = .ok (.areturn, 1)) && (match ret with
    | some (.object _) => true
    | some (.array _) => true
    | _ => false)
  | .return_ => decide (decode cc r.1 = .ok (.return_, 1)) && decide (ret = none)
  | _ => true
theorem am_ckt_ok {cc : ByteArray} {ret : Option FieldType} {r : am_I} (h : am_ckt cc ret r = true) : am_term cc ret r := by
  obtain ⟨pc, ins, len, stop, x, y, z⟩ := r
  unfold am_ckt at h
  unfold am_term
  dsimp only at h ⊢
  cases ins with
  | ireturn =>
    rw [Bool.and_eq_true] at h
    refine ⟨of_decide_eq_true h.1, fun e => ?_, fun e => ?_⟩
    · have := h.2
      rw [if_pos e] at this
      exact of_decide_eq_true this
    · have := h.2
      rw [if_neg e] at this
      exact of_decide_eq_true this
  | areturn =>
    rw [Bool.and_eq_true] at h
    obtain ⟨h1, h2⟩ := h
    refine ⟨of_decide_eq_true h1, ?_⟩
    split at h2
    · exact ⟨_, rfl, Or.inl ⟨_, rfl⟩⟩
    · exact ⟨_, rfl, Or.inr ⟨_, rfl⟩⟩
    · cases h2
  | return_ =>
    rw [Bool.and_eq_true] at h
    exact ⟨of_decide_eq_true h.1, of_decide_eq_true h.2⟩
  | _ => trivial
def am_ckch : List am_I → Bool
  | [] => true
  | [_] => true
  | e :: e' :: r => (decide (e.2.2.2.1 = 1) || decide (e'.1 = e.1 + e.2.2.1)) && am_ckch (e' :: r)
theorem am_ckch_ok : ∀ {l : List am_I}, am_ckch l = true → am_chain l
  | [], _ => trivial
  | [_], _ => trivial
  | e :: e' :: r, h => by
    unfold am_ckch at h
    simp only [Bool.and_eq_true, Bool.or_eq_true, decide_eq_true_eq] at h
    exact ⟨h.1, am_ckch_ok h.2⟩
def am_ckrs (tb : Nat → Option am_M) (hd : am_Hd) (own nm : String) (nL : Nat) (cc : ByteArray) (ret : Option FieldType) : List am_I → List (Nat × Nat) → Bool
  | [], _ => true
  | r :: rs, w :: ws => (if r.2.2.2.1 = 1 then am_ckt cc ret r else am_ck tb hd own nm nL cc r w) && am_ckrs tb hd own nm nL cc ret rs ws
  | _ :: _, [] => false
theorem am_ckrs_ok {tb : Nat → Option am_M} {hd : am_Hd} (hb : am_base) (hcal : ∀ x M n isS, tb x = some M → hd x = some (n, isS) → am_cal M n isS) {own nm : String} {nL : Nat} {cc : ByteArray} {ret : Option FieldType} : ∀ (rs : List am_I) (ws : List (Nat × Nat)), am_ckrs tb hd own nm nL cc ret rs ws = true → (∀ r ∈ rs, r.2.2.2.1 ≠ 1 → am_good tb own nm nL cc r) ∧ (∀ r ∈ rs, r.2.2.2.1 = 1 → am_term cc ret r)
  | [], _, _ => ⟨fun _ h => absurd h List.not_mem_nil, fun _ h => absurd h List.not_mem_nil⟩
  | r :: rs, w :: ws, h => by
    unfold am_ckrs at h
    rw [Bool.and_eq_true] at h
    obtain ⟨i1, i2⟩ := am_ckrs_ok hb hcal rs ws h.2
    refine ⟨fun q hq hn => ?_, fun q hq hn => ?_⟩
    · rcases List.mem_cons.mp hq with rfl | hq
      · have := h.1
        rw [if_neg hn] at this
        exact am_ck_ok hb hcal this
      · exact i1 q hq hn
    · rcases List.mem_cons.mp hq with rfl | hq
      · have := h.1
        rw [if_pos hn] at this
        exact am_ckt_ok this
      · exact i2 q hq hn
  | _ :: _, [], h => by unfold am_ckrs at h; cases h
/-- the whole check of a method -/
def am_ckM (tb : Nat → Option am_M) (hd : am_Hd) (M : am_M) (ws : List (Nat × Nat)) : Bool :=
  am_ckrs tb hd M.1.cls M.1.name M.2.2.1 M.2.1 M.2.2.2.1 M.2.2.2.2 ws && am_ckch M.2.2.2.2 && (match M.2.2.2.2 with
    | [] => false
    | e :: _ => decide (e.1 = 0 ∧ e.2.2.2.1 ≠ 1)) && plainName M.1.cls
theorem am_ckM_ok {tb : Nat → Option am_M} {hd : am_Hd} (hb : am_base) (hcal : ∀ x M n isS, tb x = some M → hd x = some (n, isS) → am_cal M n isS) {M : am_M} {ws : List (Nat × Nat)} (h : am_ckM tb hd M ws = true) : am_okM tb M := by
  unfold am_ckM at h
  simp only [Bool.and_eq_true] at h
  obtain ⟨⟨⟨h1, h2⟩, h3⟩, h4⟩ := h
  obtain ⟨i1, i2⟩ := am_ckrs_ok hb hcal _ _ h1
  refine ⟨i1, i2, am_ckch_ok h2, fun e r hd => ?_, h4⟩
  split at h3
  · cases h3
  · rename_i e9 r9 hM
    have := of_decide_eq_true h3
    rw [hM, List.dropWhile_cons, if_neg (by simp [this.1])] at hd
    cases hd
    exact this.2
end
section
/-! stretches with what comes behind them: the equations of a method's code -/
def am_bk {α : Type} (B : Nat) (sa : Nat → Nat) (dfl : Nat → List Value) (cl : am_F) (code : List am_I) (k : Nat → am_L → List Value → am_S → Option α) : Nat → List am_I → am_L → List Value → am_S → Option α
  | 0, _, _, _, _ => none
  | _ + 1, [], _, _, _ => none
  | g + 1, e :: rest, L, st, σ => am_step B sa dfl cl e L st σ
      (fun L st σ => match rest with
        | [] => none
        | e' :: _ => if e'.2.2.2.1 = 0 then am_bk B sa dfl cl code k g rest L st σ else k e'.1 L st σ)
      (fun pc L st σ => match code.dropWhile (fun e' => e'.1 != pc) with
        | [] => none
        | e' :: r => if e'.2.2.2.1 = 0 then am_bk B sa dfl cl code k g (e' :: r) L st σ else k e'.1 L st σ)
section AMB
variable {B : Nat} {sa : Nat → Nat} {dfl : Nat → List Value} {cl : am_F}
theorem am_sw_bind {α β : Type} {v : Int} {K : α → Option β} (dflt : Option α) (jp : Int → Option α) : ∀ (os : List Int) (lo : Int), am_sw v (dflt.bind K) (fun o => (jp o).bind K) os lo = (am_sw v dflt jp os lo).bind K
  | [], _ => rfl
  | o :: os, lo => by
    unfold am_sw
    split
    · rfl
    · exact am_sw_bind dflt jp os (lo + 1)
theorem am_back_bind {α β : Type} {kind : Nat} {r : Option (Option Value × am_S)} {rest : List Value} {nx : List Value → am_S → Option α} {K : α → Option β} : am_back kind r rest (fun st σ => (nx st σ).bind K) = (am_back kind r rest nx).bind K := by
  unfold am_back
  cases r with
  | none => split <;> rfl
  | some q =>
    split <;> simp only [Option.bind_some]
    · split <;> rfl
    · split <;> rfl
    · split <;> rfl
set_option maxHeartbeats 4000000 in
theorem am_step_bind {α β : Type} {r : am_I} {L : am_L} {st : List Value} {σ : am_S} {nx : am_L → List Value → am_S → Option α} {jp : Nat → am_L → List Value → am_S → Option α} {K : α → Option β} :
    am_step B sa dfl cl r L st σ (fun L st σ => (nx L st σ).bind K) (fun pc L st σ => (jp pc L st σ).bind K) = (am_step B sa dfl cl r L st σ nx jp).bind K := by
  obtain ⟨pc, ins, len, stop, x, y, z⟩ := r
  cases ins with
  | tableswitch dflt lo hi offs =>
    unfold am_step
    dsimp only
    split
    · exact am_sw_bind _ _ _ _
    · rfl
  | invokevirtual i =>
    unfold am_step am_invV
    dsimp only
    split
    · rfl
    · split
      · split
        · rw [Option.bind_assoc]
          congr 1
          funext q
          exact am_back_bind
        · rfl
      · rfl
  | invokespecial i =>
    unfold am_step am_invI
    dsimp only
    repeat' (first | rfl | exact am_back_bind | split)
  | invokestatic i =>
    unfold am_step am_inv
    dsimp only
    repeat' (first | rfl | exact am_back_bind | (rw [Option.bind_assoc]; done) | split)
  | newarray ty =>
    unfold am_step
    dsimp only
    cases ty <;> dsimp only <;> repeat' (first | rfl | split)
  | _ =>
    unfold am_step
    dsimp only
    repeat' (first | rfl | (rw [Option.bind_assoc]; done) | split)
theorem am_bk_eq {α : Type} {code : List am_I} {k : Nat → am_L → List Value → am_S → Option α} : ∀ (g : Nat) (cur : List am_I) (L : am_L) (st : List Value) (σ : am_S), am_bk B sa dfl cl code k g cur L st σ = (am_blk B sa dfl cl code g cur L st σ).bind fun o => k o.1 o.2.1 o.2.2.1 o.2.2.2 := by
  intro g
  induction g with
  | zero => intro cur L st σ; rfl
  | succ g ih =>
    intro cur L st σ
    cases cur with
    | nil => rfl
    | cons e rest =>
      unfold am_bk am_blk
      rw [← am_step_bind]
      congr 1
      · funext L st σ
        cases rest with
        | nil => rfl
        | cons e' r =>
          dsimp only
          split
          · exact ih _ _ _ _
          · rfl
      · funext pc L st σ
        cases hd : code.dropWhile (fun e' => e'.1 != pc) with
        | nil => rfl
        | cons e' r =>
          dsimp only
          split
          · exact ih _ _ _ _
          · rfl
end AMB
/-- a run from a pc to its answer -/
def am_go (B : Nat) (sa : Nat → Nat) (dfl : Nat → List Value) (cl : am_F) (code : List am_I) (f pc : Nat) (L : am_L) (st : List Value) (σ : am_S) : Option (Option Value × am_S) := (am_exec B sa dfl cl code f pc L st σ).bind fun o => am_end code o
/-- behind a stretch -/
def am_nx (B : Nat) (sa : Nat → Nat) (dfl : Nat → List Value) (cl : am_F) (code : List am_I) (f : Nat) (pc : Nat) (L : am_L) (st : List Value) (σ : am_S) : Option (Option Value × am_S) := match code.dropWhile (fun e' => e'.1 != pc) with
  | [] => none
  | e' :: _ => if e'.2.2.2.1 = 1 then am_end code (pc, st, σ) else (am_keep L 0 16 (e'.2.2.2.1 - 2)).bind fun L' => am_go B sa dfl cl code f pc L' st σ
theorem am_go_succ {B : Nat} {sa : Nat → Nat} {dfl : Nat → List Value} {cl : am_F} {code : List am_I} {f pc : Nat} {L : am_L} {st : List Value} {σ : am_S} :
    am_go B sa dfl cl code (f + 1) pc L st σ = am_bk B sa dfl cl code (am_nx B sa dfl cl code f) code.length (code.dropWhile (fun e' => e'.1 != pc)) L st σ := by
  rw [am_bk_eq]
  unfold am_go am_exec
  rw [Option.bind_assoc]
  congr 1
  funext o
  unfold am_nx
  cases hd : code.dropWhile (fun e' => e'.1 != o.1) with
  | nil => rfl
  | cons e' r =>
    dsimp only
    split
    · rfl
    · rw [Option.bind_assoc]
      rfl
theorem am_call_succ {B : Nat} {sa : Nat → Nat} {dfl : Nat → List Value} {tb : Nat → Option am_M} {f d mi : Nat} {as : List Value} {σ : am_S} {M : am_M} (hM : tb mi = some M) (hl : (lg_sl as).length ≤ M.2.2.1) :
    am_call B sa dfl tb f (d + 1) mi as σ = am_go B sa dfl (am_call B sa dfl tb f d) M.2.2.2.2 f 0 (lv_args 0 as) [] σ := by
  unfold am_call
  rw [hM]
  simp only [Option.bind_some]
  rw [if_neg (Nat.not_lt.mpr hl)]
  rfl
/-- the answer of a boolean method -/
def am_rz (v : Int32) (σ : am_S) : Option (Option Value × am_S) := if (1 : Nat) = 0 ∨ v = 0 ∨ v = 1 then some (some (.int v), σ) else none
/-- what a call gave back -/
def am_v {α : Type} (r : Option (Option Value × am_S)) (k : am_S → Option α) : Option α := r.bind fun q => match q.1 with
  | none => k q.2
  | _ => none
def am_i {α : Type} (r : Option (Option Value × am_S)) (k : Int32 → am_S → Option α) : Option α := r.bind fun q => match q.1 with
  | some (.int x) => k x q.2
  | _ => none
def am_p {α : Type} (r : Option (Option Value × am_S)) (k : Nat → am_S → Option α) (kn : am_S → Option α) : Option α := r.bind fun q => match q.1 with
  | some (.ref a) => k a q.2
  | some .null => kn q.2
  | _ => none
end
section
/-! the table of methods, by program -/
def am_r0 : List am_I := [(0, .iconst 0, 1, 0, 0, 0, 0), (1, .istore_n 2, 1, 0, 0, 0, 0), (2, .aload_n 0, 1, 0, 0, 0, 0), (3, .arraylength, 1, 0, 0, 0, 0), (4, .istore_n 3, 1, 0, 0, 0, 0), (5, .iload_n 2, 1, 17, 0, 0, 0), (6, .iload_n 3, 1, 0, 0, 0, 0), (7, .if_icmp .ge 13, 3, 0, 20, 0, 0), (10, .aload_n 0, 1, 0, 0, 0, 0), (11, .iload_n 2, 1, 0, 0, 0, 0), (12, .iload_n 1, 1, 0, 0, 0, 0), (13, .iastore, 1, 0, 0, 0, 0), (14, .iinc 2 1, 3, 0, 0, 0, 0), (17, .goto (-12), 3, 0, 5, 0, 0), (20, .return_, 1, 1, 0, 0, 0)]
def am_m0 : am_M := (yJ7_fill_53178, cJ7_fill_53178, 4, none, am_r0)
def am_r1 : List am_I := [(0, .iload_n 1, 1, 0, 0, 0, 0), (1, .aload_n 0, 1, 0, 0, 0, 0), (2, .arraylength, 1, 0, 0, 0, 0), (3, .if_icmp .ne 11, 3, 0, 14, 0, 0), (6, .aload_n 0, 1, 0, 0, 0, 0), (7, .invokevirtual 316, 3, 1, 0, 0, 0), (10, .checkcast 317, 3, 1, 0, 0, 0), (13, .areturn, 1, 1, 0, 0, 0), (14, .iload_n 1, 1, 0, 0, 0, 0), (15, .newarray .int, 2, 0, 0, 0, 0), (17, .astore_n 2, 1, 0, 0, 0, 0), (18, .aload_n 0, 1, 0, 0, 0, 0), (19, .iconst 0, 1, 0, 0, 0, 0), (20, .aload_n 2, 1, 0, 0, 0, 0), (21, .iconst 0, 1, 0, 0, 0, 0), (22, .aload_n 0, 1, 0, 0, 0, 0), (23, .arraylength, 1, 0, 0, 0, 0), (24, .iload_n 1, 1, 0, 0, 0, 0), (25, .invokestatic 304, 3, 0, 0, 0, 6), (28, .invokestatic 150, 3, 0, 0, 0, 7), (31, .aload_n 2, 1, 0, 0, 0, 0), (32, .areturn, 1, 1, 0, 0, 0)]
def am_m1 : am_M := (yJ7_copyOf_59c91, cJ7_copyOf_59c91, 3, (some (.array .int)), am_r1)
def am_r2 : List am_I := [(0, .aload_n 0, 1, 0, 0, 0, 0), (1, .invokespecial 3, 3, 0, 0, 0, 0), (4, .aload_n 0, 1, 0, 0, 0, 0), (5, .bipush 64, 2, 0, 0, 0, 0), (7, .newarray .int, 2, 0, 0, 0, 0), (9, .putfield 9, 3, 0, 7, 0, 1), (12, .aload_n 0, 1, 0, 0, 0, 0), (13, .bipush 64, 2, 0, 0, 0, 0), (15, .newarray .int, 2, 0, 0, 0, 0), (17, .putfield 15, 3, 0, 7, 1, 1), (20, .aload_n 0, 1, 0, 0, 0, 0), (21, .bipush 64, 2, 0, 0, 0, 0), (23, .newarray .int, 2, 0, 0, 0, 0), (25, .putfield 18, 3, 0, 7, 2, 1), (28, .aload_n 0, 1, 0, 0, 0, 0), (29, .bipush 64, 2, 0, 0, 0, 0), (31, .newarray .int, 2, 0, 0, 0, 0), (33, .putfield 21, 3, 0, 7, 3, 1), (36, .aload_n 0, 1, 0, 0, 0, 0), (37, .bipush 64, 2, 0, 0, 0, 0), (39, .newarray .int, 2, 0, 0, 0, 0), (41, .putfield 24, 3, 0, 7, 4, 1), (44, .aload_n 0, 1, 0, 0, 0, 0), (45, .bipush 64, 2, 0, 0, 0, 0), (47, .newarray .int, 2, 0, 0, 0, 0), (49, .putfield 27, 3, 0, 7, 5, 1), (52, .aload_n 0, 1, 0, 0, 0, 0), (53, .bipush 64, 2, 0, 0, 0, 0), (55, .newarray .int, 2, 0, 0, 0, 0), (57, .putfield 30, 3, 0, 7, 6, 1), (60, .aload_n 0, 1, 0, 0, 0, 0), (61, .sipush 1024, 3, 0, 0, 0, 0), (64, .newarray .int, 2, 0, 0, 0, 0), (66, .putfield 33, 3, 0, 7, 7, 7), (69, .aload_n 0, 1, 0, 0, 0, 0), (70, .iconst 0, 1, 0, 0, 0, 0), (71, .putfield 36, 3, 0, 7, 8, 0), (74, .aload_n 0, 1, 0, 0, 0, 0), (75, .getfield 33, 3, 0, 7, 7, 1), (78, .iconst (-1), 1, 0, 0, 0, 0), (79, .invokestatic 40, 3, 0, 0, 2, 3), (82, .aload_n 0, 1, 0, 0, 0, 0), (83, .iconst (-1), 1, 0, 0, 0, 0), (84, .iconst (-1), 1, 0, 0, 0, 0), (85, .iconst (-1), 1, 0, 0, 0, 0), (86, .invokevirtual 46, 3, 0, 3, 3, 712), (89, .pop, 1, 0, 0, 0, 0), (90, .aload_n 0, 1, 0, 0, 0, 0), (91, .iconst 0, 1, 0, 0, 0, 0), (92, .iconst (-1), 1, 0, 0, 0, 0), (93, .iconst (-1), 1, 0, 0, 0, 0), (94, .invokevirtual 46, 3, 0, 3, 3, 712), (97, .pop, 1, 0, 0, 0, 0), (98, .return_, 1, 1, 0, 0, 0)]
def am_m2 : am_M := (yX7_init, cX7_init, 1, none, am_r2)
def am_r3 : List am_I := [(0, .iload_n 2, 1, 0, 0, 0, 0), (1, .bipush (-2), 2, 0, 0, 0, 0), (3, .if_icmp .eq 9, 3, 0, 12, 0, 0), (6, .iload_n 3, 1, 0, 0, 0, 0), (7, .bipush (-2), 2, 0, 0, 0, 0), (9, .if_icmp .ne 6, 3, 0, 15, 0, 0), (12, .bipush (-2), 2, 0, 0, 0, 0), (14, .ireturn, 1, 1, 0, 0, 0), (15, .iload_n 1, 1, 0, 0, 0, 0), (16, .iload_n 2, 1, 0, 0, 0, 0), (17, .iload_n 3, 1, 0, 0, 0, 0), (18, .invokestatic 50, 3, 0, 6, 3, 13), (21, .istore 4, 2, 0, 0, 0, 0), (23, .aload_n 0, 1, 0, 0, 0, 0), (24, .iload 4, 2, 0, 0, 0, 0), (26, .iload_n 1, 1, 0, 0, 0, 0), (27, .iload_n 2, 1, 0, 0, 0, 0), (28, .iload_n 3, 1, 0, 0, 0, 0), (29, .invokevirtual 53, 3, 0, 4, 4, 712), (32, .istore 5, 2, 0, 0, 0, 0), (34, .iload 5, 2, 0, 0, 0, 0), (36, .iconst (-1), 1, 0, 0, 0, 0), (37, .if_icmp .eq 8, 3, 0, 45, 0, 0), (40, .iload 5, 2, 0, 0, 0, 0), (42, .goto 12, 3, 0, 54, 0, 0), (45, .aload_n 0, 1, 0, 0, 0, 0), (46, .iload 4, 2, 0, 0, 0, 0), (48, .iload_n 1, 1, 0, 0, 0, 0), (49, .iload_n 2, 1, 0, 0, 0, 0), (50, .iload_n 3, 1, 0, 0, 0, 0), (51, .invokevirtual 57, 3, 0, 5, 4, 712), (54, .ireturn, 1, 1, 0, 0, 0)]
def am_m3 : am_M := (yX7_make, cX7_make, 6, (some .int), am_r3)
def am_r4 : List am_I := [(0, .aload_n 0, 1, 0, 0, 0, 0), (1, .getfield 33, 3, 0, 7, 7, 1), (4, .iload_n 1, 1, 0, 0, 0, 0), (5, .iaload, 1, 0, 0, 0, 0), (6, .istore 5, 2, 0, 0, 0, 0), (8, .iconst 0, 1, 0, 0, 0, 0), (9, .istore 6, 2, 0, 0, 0, 0), (11, .iload 5, 2, 127, 0, 0, 0), (13, .iconst (-1), 1, 0, 0, 0, 0), (14, .if_icmp .eq 64, 3, 0, 78, 0, 0), (17, .iload 6, 2, 0, 0, 0, 0), (19, .aload_n 0, 1, 0, 0, 0, 0), (20, .getfield 36, 3, 0, 7, 8, 0), (23, .if_icmp .ge 55, 3, 0, 78, 0, 0), (26, .aload_n 0, 1, 0, 0, 0, 0), (27, .getfield 9, 3, 0, 7, 0, 1), (30, .iload 5, 2, 0, 0, 0, 0), (32, .iaload, 1, 0, 0, 0, 0), (33, .iload_n 2, 1, 0, 0, 0, 0), (34, .if_icmp .ne 29, 3, 0, 63, 0, 0), (37, .aload_n 0, 1, 0, 0, 0, 0), (38, .getfield 15, 3, 0, 7, 1, 1), (41, .iload 5, 2, 0, 0, 0, 0), (43, .iaload, 1, 0, 0, 0, 0), (44, .iload_n 3, 1, 0, 0, 0, 0), (45, .if_icmp .ne 18, 3, 0, 63, 0, 0), (48, .aload_n 0, 1, 0, 0, 0, 0), (49, .getfield 18, 3, 0, 7, 2, 1), (52, .iload 5, 2, 0, 0, 0, 0), (54, .iaload, 1, 0, 0, 0, 0), (55, .iload 4, 2, 0, 0, 0, 0), (57, .if_icmp .ne 6, 3, 0, 63, 0, 0), (60, .iload 5, 2, 0, 0, 0, 0), (62, .ireturn, 1, 1, 0, 0, 0), (63, .aload_n 0, 1, 0, 0, 0, 0), (64, .getfield 27, 3, 0, 7, 5, 1), (67, .iload 5, 2, 0, 0, 0, 0), (69, .iaload, 1, 0, 0, 0, 0), (70, .istore 5, 2, 0, 0, 0, 0), (72, .iinc 6 1, 3, 0, 0, 0, 0), (75, .goto (-64), 3, 0, 11, 0, 0), (78, .iconst (-1), 1, 0, 0, 0, 0), (79, .ireturn, 1, 1, 0, 0, 0)]
def am_m4 : am_M := (yX7_find, cX7_find, 7, (some .int), am_r4)
def am_r5 : List am_I := [(0, .iconst 1, 1, 0, 0, 0, 0), (1, .aload_n 0, 1, 0, 0, 0, 0), (2, .getfield 21, 3, 0, 7, 3, 1), (5, .iload_n 3, 1, 0, 0, 0, 0), (6, .invokestatic 60, 3, 0, 119, 2, 14), (9, .iadd, 1, 0, 0, 0, 0), (10, .aload_n 0, 1, 0, 0, 0, 0), (11, .getfield 21, 3, 0, 7, 3, 1), (14, .iload 4, 2, 0, 0, 0, 0), (16, .invokestatic 60, 3, 0, 119, 2, 14), (19, .iadd, 1, 0, 0, 0, 0), (20, .istore 5, 2, 0, 0, 0, 0), (22, .iconst 1, 1, 0, 0, 0, 0), (23, .aload_n 0, 1, 0, 0, 0, 0), (24, .getfield 24, 3, 0, 7, 4, 1), (27, .iload_n 3, 1, 0, 0, 0, 0), (28, .invokestatic 60, 3, 0, 119, 2, 14), (31, .aload_n 0, 1, 0, 0, 0, 0), (32, .getfield 24, 3, 0, 7, 4, 1), (35, .iload 4, 2, 0, 0, 0, 0), (37, .invokestatic 60, 3, 0, 119, 2, 14), (40, .invokestatic 64, 3, 0, 0, 0, 5), (43, .iadd, 1, 0, 0, 0, 0), (44, .istore 6, 2, 0, 0, 0, 0), (46, .iload 5, 2, 0, 0, 0, 0), (48, .sipush 200, 3, 0, 0, 0, 0), (51, .if_icmp .gt 20, 3, 0, 71, 0, 0), (54, .iload 6, 2, 0, 0, 0, 0), (56, .bipush 24, 2, 0, 0, 0, 0), (58, .if_icmp .gt 13, 3, 0, 71, 0, 0), (61, .aload_n 0, 1, 0, 0, 0, 0), (62, .getfield 36, 3, 0, 7, 8, 0), (65, .sipush 8000, 3, 0, 0, 0, 0), (68, .if_icmp .lt 6, 3, 0, 74, 0, 0), (71, .bipush (-2), 2, 0, 0, 0, 0), (73, .ireturn, 1, 1, 0, 0, 0), (74, .aload_n 0, 1, 0, 0, 0, 0), (75, .getfield 36, 3, 0, 7, 8, 0), (78, .aload_n 0, 1, 0, 0, 0, 0), (79, .getfield 9, 3, 0, 7, 0, 1), (82, .arraylength, 1, 0, 0, 0, 0), (83, .if_icmp .ne 102, 3, 0, 185, 0, 0), (86, .iconst 2, 1, 0, 0, 0, 0), (87, .aload_n 0, 1, 0, 0, 0, 0), (88, .getfield 36, 3, 0, 7, 8, 0), (91, .imul, 1, 0, 0, 0, 0), (92, .istore 7, 2, 0, 0, 0, 0), (94, .aload_n 0, 1, 0, 0, 0, 0), (95, .aload_n 0, 1, 0, 0, 0, 0), (96, .getfield 9, 3, 0, 7, 0, 1), (99, .iload 7, 2, 0, 0, 0, 0), (101, .invokestatic 70, 3, 0, 1, 2, 23), (104, .putfield 9, 3, 0, 7, 0, 1), (107, .aload_n 0, 1, 0, 0, 0, 0), (108, .aload_n 0, 1, 0, 0, 0, 0), (109, .getfield 15, 3, 0, 7, 1, 1), (112, .iload 7, 2, 0, 0, 0, 0), (114, .invokestatic 70, 3, 0, 1, 2, 23), (117, .putfield 15, 3, 0, 7, 1, 1), (120, .aload_n 0, 1, 0, 0, 0, 0), (121, .aload_n 0, 1, 0, 0, 0, 0), (122, .getfield 18, 3, 0, 7, 2, 1), (125, .iload 7, 2, 0, 0, 0, 0), (127, .invokestatic 70, 3, 0, 1, 2, 23), (130, .putfield 18, 3, 0, 7, 2, 1), (133, .aload_n 0, 1, 0, 0, 0, 0), (134, .aload_n 0, 1, 0, 0, 0, 0), (135, .getfield 21, 3, 0, 7, 3, 1), (138, .iload 7, 2, 0, 0, 0, 0), (140, .invokestatic 70, 3, 0, 1, 2, 23), (143, .putfield 21, 3, 0, 7, 3, 1), (146, .aload_n 0, 1, 0, 0, 0, 0), (147, .aload_n 0, 1, 0, 0, 0, 0), (148, .getfield 24, 3, 0, 7, 4, 1), (151, .iload 7, 2, 0, 0, 0, 0), (153, .invokestatic 70, 3, 0, 1, 2, 23), (156, .putfield 24, 3, 0, 7, 4, 1), (159, .aload_n 0, 1, 0, 0, 0, 0), (160, .aload_n 0, 1, 0, 0, 0, 0), (161, .getfield 27, 3, 0, 7, 5, 1), (164, .iload 7, 2, 0, 0, 0, 0), (166, .invokestatic 70, 3, 0, 1, 2, 23), (169, .putfield 27, 3, 0, 7, 5, 1), (172, .aload_n 0, 1, 0, 0, 0, 0), (173, .aload_n 0, 1, 0, 0, 0, 0), (174, .getfield 30, 3, 0, 7, 6, 1), (177, .iload 7, 2, 0, 0, 0, 0), (179, .invokestatic 70, 3, 0, 1, 2, 23), (182, .putfield 30, 3, 0, 7, 6, 1), (185, .aload_n 0, 1, 129, 0, 0, 0), (186, .getfield 9, 3, 0, 7, 0, 1), (189, .aload_n 0, 1, 0, 0, 0, 0), (190, .getfield 36, 3, 0, 7, 8, 0), (193, .iload_n 2, 1, 0, 0, 0, 0), (194, .iastore, 1, 0, 0, 0, 0), (195, .aload_n 0, 1, 0, 0, 0, 0), (196, .getfield 15, 3, 0, 7, 1, 1), (199, .aload_n 0, 1, 0, 0, 0, 0), (200, .getfield 36, 3, 0, 7, 8, 0), (203, .iload_n 3, 1, 0, 0, 0, 0), (204, .iastore, 1, 0, 0, 0, 0), (205, .aload_n 0, 1, 0, 0, 0, 0), (206, .getfield 18, 3, 0, 7, 2, 1), (209, .aload_n 0, 1, 0, 0, 0, 0), (210, .getfield 36, 3, 0, 7, 8, 0), (213, .iload 4, 2, 0, 0, 0, 0), (215, .iastore, 1, 0, 0, 0, 0), (216, .aload_n 0, 1, 0, 0, 0, 0), (217, .getfield 21, 3, 0, 7, 3, 1), (220, .aload_n 0, 1, 0, 0, 0, 0), (221, .getfield 36, 3, 0, 7, 8, 0), (224, .iload 5, 2, 0, 0, 0, 0), (226, .iastore, 1, 0, 0, 0, 0), (227, .aload_n 0, 1, 0, 0, 0, 0), (228, .getfield 24, 3, 0, 7, 4, 1), (231, .aload_n 0, 1, 0, 0, 0, 0), (232, .getfield 36, 3, 0, 7, 8, 0), (235, .iload 6, 2, 0, 0, 0, 0), (237, .iastore, 1, 0, 0, 0, 0), (238, .aload_n 0, 1, 0, 0, 0, 0), (239, .getfield 27, 3, 0, 7, 5, 1), (242, .aload_n 0, 1, 0, 0, 0, 0), (243, .getfield 36, 3, 0, 7, 8, 0), (246, .aload_n 0, 1, 0, 0, 0, 0), (247, .getfield 33, 3, 0, 7, 7, 1), (250, .iload_n 1, 1, 0, 0, 0, 0), (251, .iaload, 1, 0, 0, 0, 0), (252, .iastore, 1, 0, 0, 0, 0), (253, .aload_n 0, 1, 0, 0, 0, 0), (254, .getfield 33, 3, 0, 7, 7, 1), (257, .iload_n 1, 1, 0, 0, 0, 0), (258, .aload_n 0, 1, 0, 0, 0, 0), (259, .getfield 36, 3, 0, 7, 8, 0), (262, .iastore, 1, 0, 0, 0, 0), (263, .aload_n 0, 1, 0, 0, 0, 0), (264, .dup, 1, 0, 0, 0, 0), (265, .getfield 36, 3, 0, 7, 8, 0), (268, .iconst 1, 1, 0, 0, 0, 0), (269, .iadd, 1, 0, 0, 0, 0), (270, .putfield 36, 3, 0, 7, 8, 0), (273, .aload_n 0, 1, 0, 0, 0, 0), (274, .getfield 36, 3, 0, 7, 8, 0), (277, .iconst 1, 1, 0, 0, 0, 0), (278, .isub, 1, 0, 0, 0, 0), (279, .ireturn, 1, 1, 0, 0, 0)]
def am_m5 : am_M := (yX7_append, cX7_append, 8, (some .int), am_r5)
def am_r6 : List am_I := [(0, .iload_n 0, 1, 0, 0, 0, 0), (1, .ldc 74, 2, 0, 2654435761, 0, 0), (3, .imul, 1, 0, 0, 0, 0), (4, .iload_n 1, 1, 0, 0, 0, 0), (5, .ldc 75, 2, 0, 2246822507, 0, 0), (7, .imul, 1, 0, 0, 0, 0), (8, .iadd, 1, 0, 0, 0, 0), (9, .iload_n 2, 1, 0, 0, 0, 0), (10, .ldc 76, 2, 0, 3266489909, 0, 0), (12, .imul, 1, 0, 0, 0, 0), (13, .iadd, 1, 0, 0, 0, 0), (14, .istore_n 3, 1, 0, 0, 0, 0), (15, .iload_n 3, 1, 0, 0, 0, 0), (16, .iload_n 3, 1, 0, 0, 0, 0), (17, .bipush 15, 2, 0, 0, 0, 0), (19, .iushr, 1, 0, 0, 0, 0), (20, .ixor, 1, 0, 0, 0, 0), (21, .ldc 77, 2, 0, 668265263, 0, 0), (23, .imul, 1, 0, 0, 0, 0), (24, .istore_n 3, 1, 0, 0, 0, 0), (25, .iload_n 3, 1, 0, 0, 0, 0), (26, .bipush 22, 2, 0, 0, 0, 0), (28, .iushr, 1, 0, 0, 0, 0), (29, .ireturn, 1, 1, 0, 0, 0)]
def am_m6 : am_M := (yX7_bucketOf, cX7_bucketOf, 4, (some .int), am_r6)
def am_r7 : List am_I := [(0, .aload_n 0, 1, 0, 0, 0, 0), (1, .getfield 36, 3, 0, 7, 8, 0), (4, .iconst 1, 1, 0, 0, 0, 0), (5, .isub, 1, 0, 0, 0, 0), (6, .istore_n 2, 1, 0, 0, 0, 0), (7, .iload_n 2, 1, 9, 0, 0, 0), (8, .iload_n 1, 1, 0, 0, 0, 0), (9, .if_icmp .lt 41, 3, 0, 50, 0, 0), (12, .aload_n 0, 1, 0, 0, 0, 0), (13, .getfield 33, 3, 0, 7, 7, 1), (16, .aload_n 0, 1, 0, 0, 0, 0), (17, .getfield 9, 3, 0, 7, 0, 1), (20, .iload_n 2, 1, 0, 0, 0, 0), (21, .iaload, 1, 0, 0, 0, 0), (22, .aload_n 0, 1, 0, 0, 0, 0), (23, .getfield 15, 3, 0, 7, 1, 1), (26, .iload_n 2, 1, 0, 0, 0, 0), (27, .iaload, 1, 0, 0, 0, 0), (28, .aload_n 0, 1, 0, 0, 0, 0), (29, .getfield 18, 3, 0, 7, 2, 1), (32, .iload_n 2, 1, 0, 0, 0, 0), (33, .iaload, 1, 0, 0, 0, 0), (34, .invokestatic 50, 3, 0, 6, 3, 13), (37, .aload_n 0, 1, 0, 0, 0, 0), (38, .getfield 27, 3, 0, 7, 5, 1), (41, .iload_n 2, 1, 0, 0, 0, 0), (42, .iaload, 1, 0, 0, 0, 0), (43, .iastore, 1, 0, 0, 0, 0), (44, .iinc 2 (-1), 3, 0, 0, 0, 0), (47, .goto (-40), 3, 0, 7, 0, 0), (50, .aload_n 0, 1, 0, 0, 0, 0), (51, .aload_n 0, 1, 0, 0, 0, 0), (52, .getfield 36, 3, 0, 7, 8, 0), (55, .iload_n 1, 1, 0, 0, 0, 0), (56, .invokestatic 78, 3, 0, 0, 0, 6), (59, .putfield 36, 3, 0, 7, 8, 0), (62, .return_, 1, 1, 0, 0, 0)]
def am_m7 : am_M := (yX7_shorten, cX7_shorten, 3, none, am_r7)
def am_r8 : List am_I := [(0, .iload_n 1, 1, 0, 0, 0, 0), (1, .ifCond .lt 17, 3, 0, 18, 0, 0), (4, .aload_n 0, 1, 0, 0, 0, 0), (5, .getfield 9, 3, 0, 7, 0, 1), (8, .iload_n 1, 1, 0, 0, 0, 0), (9, .iaload, 1, 0, 0, 0, 0), (10, .iconst 2, 1, 0, 0, 0, 0), (11, .if_icmp .ne 7, 3, 0, 18, 0, 0), (14, .iconst 1, 1, 0, 0, 0, 0), (15, .goto 4, 3, 0, 19, 0, 0), (18, .iconst 0, 1, 0, 0, 0, 0), (19, .ireturn, 1, 1, 1, 0, 0)]
def am_m8 : am_M := (yX7_isFunction, cX7_isFunction, 2, (some .boolean), am_r8)
def am_r9 : List am_I := [(0, .aload_n 0, 1, 0, 0, 0, 0), (1, .iload_n 1, 1, 0, 0, 0, 0), (2, .invokevirtual 81, 3, 0, 8, 1, 712), (5, .ifCond .eq 12, 3, 0, 17, 0, 0), (8, .aload_n 0, 1, 0, 0, 0, 0), (9, .getfield 18, 3, 0, 7, 2, 1), (12, .iload_n 1, 1, 0, 0, 0, 0), (13, .iaload, 1, 0, 0, 0, 0), (14, .goto 5, 3, 0, 19, 0, 0), (17, .bipush (-2), 2, 0, 0, 0, 0), (19, .ireturn, 1, 1, 0, 0, 0)]
def am_m9 : am_M := (yX7_answerOf, cX7_answerOf, 2, (some .int), am_r9)
def am_r10 : List am_I := [(0, .iload_n 1, 1, 0, 0, 0, 0), (1, .istore_n 3, 1, 0, 0, 0, 0), (2, .iload_n 2, 1, 0, 0, 0, 0), (3, .istore 4, 2, 0, 0, 0, 0), (5, .iconst 0, 1, 0, 0, 0, 0), (6, .istore 5, 2, 0, 0, 0, 0), (8, .iload 4, 2, 59, 0, 0, 0), (10, .ifCond .le 64, 3, 0, 74, 0, 0), (13, .iload 5, 2, 0, 0, 0, 0), (15, .bipush 24, 2, 0, 0, 0, 0), (17, .if_icmp .ge 57, 3, 0, 74, 0, 0), (20, .iinc 4 (-1), 3, 0, 0, 0, 0), (23, .aload_n 0, 1, 0, 0, 0, 0), (24, .getfield 15, 3, 0, 7, 1, 1), (27, .iload_n 3, 1, 0, 0, 0, 0), (28, .iaload, 1, 0, 0, 0, 0), (29, .istore 6, 2, 0, 0, 0, 0), (31, .iload 4, 2, 0, 0, 0, 0), (33, .aload_n 0, 1, 0, 0, 0, 0), (34, .getfield 21, 3, 0, 7, 3, 1), (37, .iload 6, 2, 0, 0, 0, 0), (39, .iaload, 1, 0, 0, 0, 0), (40, .if_icmp .ge 9, 3, 0, 49, 0, 0), (43, .iload 6, 2, 0, 0, 0, 0), (45, .istore_n 3, 1, 0, 0, 0, 0), (46, .goto 22, 3, 0, 68, 0, 0), (49, .iload 4, 2, 0, 0, 0, 0), (51, .aload_n 0, 1, 0, 0, 0, 0), (52, .getfield 21, 3, 0, 7, 3, 1), (55, .iload 6, 2, 0, 0, 0, 0), (57, .iaload, 1, 0, 0, 0, 0), (58, .isub, 1, 0, 0, 0, 0), (59, .istore 4, 2, 0, 0, 0, 0), (61, .aload_n 0, 1, 0, 0, 0, 0), (62, .getfield 18, 3, 0, 7, 2, 1), (65, .iload_n 3, 1, 0, 0, 0, 0), (66, .iaload, 1, 0, 0, 0, 0), (67, .istore_n 3, 1, 0, 0, 0, 0), (68, .iinc 5 1, 3, 0, 0, 0, 0), (71, .goto (-63), 3, 0, 8, 0, 0), (74, .aload_n 0, 1, 0, 0, 0, 0), (75, .getfield 9, 3, 0, 7, 0, 1), (78, .iload_n 3, 1, 0, 0, 0, 0), (79, .iaload, 1, 0, 0, 0, 0), (80, .ireturn, 1, 1, 0, 0, 0)]
def am_m10 : am_M := (yX7_codeAt, cX7_codeAt, 7, (some .int), am_r10)
def am_r11 : List am_I := [(0, .iconst 0, 1, 0, 0, 0, 0), (1, .istore_n 1, 1, 0, 0, 0, 0), (2, .iload_n 1, 1, 5, 0, 0, 0), (3, .aload_n 0, 1, 0, 0, 0, 0), (4, .getfield 36, 3, 0, 7, 8, 0), (7, .if_icmp .ge 16, 3, 0, 23, 0, 0), (10, .aload_n 0, 1, 0, 0, 0, 0), (11, .getfield 30, 3, 0, 7, 6, 1), (14, .iload_n 1, 1, 0, 0, 0, 0), (15, .iconst (-1), 1, 0, 0, 0, 0), (16, .iastore, 1, 0, 0, 0, 0), (17, .iinc 1 1, 3, 0, 0, 0, 0), (20, .goto (-18), 3, 0, 2, 0, 0), (23, .return_, 1, 1, 0, 0, 0)]
def am_m11 : am_M := (yX7_unmark, cX7_unmark, 2, none, am_r11)
def am_r12 : List am_I := [(0, .aload_n 0, 1, 0, 0, 0, 0), (1, .getfield 30, 3, 0, 7, 6, 1), (4, .iload_n 1, 1, 0, 0, 0, 0), (5, .iload_n 1, 1, 0, 0, 0, 0), (6, .iastore, 1, 0, 0, 0, 0), (7, .return_, 1, 1, 0, 0, 0)]
def am_m12 : am_M := (yX7_mark, cX7_mark, 2, none, am_r12)
def am_r13 : List am_I := [(0, .aload_n 0, 1, 0, 0, 0, 0), (1, .getfield 36, 3, 0, 7, 8, 0), (4, .iconst 1, 1, 0, 0, 0, 0), (5, .isub, 1, 0, 0, 0, 0), (6, .istore_n 1, 1, 0, 0, 0, 0), (7, .iload_n 1, 1, 5, 0, 0, 0), (8, .ifCond .lt 69, 3, 0, 77, 0, 0), (11, .aload_n 0, 1, 0, 0, 0, 0), (12, .getfield 30, 3, 0, 7, 6, 1), (15, .iload_n 1, 1, 0, 0, 0, 0), (16, .iaload, 1, 0, 0, 0, 0), (17, .iconst (-1), 1, 0, 0, 0, 0), (18, .if_icmp .eq 23, 3, 0, 41, 0, 0), (21, .aload_n 0, 1, 0, 0, 0, 0), (22, .getfield 15, 3, 0, 7, 1, 1), (25, .iload_n 1, 1, 0, 0, 0, 0), (26, .iaload, 1, 0, 0, 0, 0), (27, .iconst (-1), 1, 0, 0, 0, 0), (28, .if_icmp .eq 13, 3, 0, 41, 0, 0), (31, .aload_n 0, 1, 0, 0, 0, 0), (32, .aload_n 0, 1, 0, 0, 0, 0), (33, .getfield 15, 3, 0, 7, 1, 1), (36, .iload_n 1, 1, 0, 0, 0, 0), (37, .iaload, 1, 0, 0, 0, 0), (38, .invokevirtual 85, 3, 0, 12, 1, 702), (41, .aload_n 0, 1, 0, 0, 0, 0), (42, .getfield 30, 3, 0, 7, 6, 1), (45, .iload_n 1, 1, 0, 0, 0, 0), (46, .iaload, 1, 0, 0, 0, 0), (47, .iconst (-1), 1, 0, 0, 0, 0), (48, .if_icmp .eq 23, 3, 0, 71, 0, 0), (51, .aload_n 0, 1, 0, 0, 0, 0), (52, .getfield 18, 3, 0, 7, 2, 1), (55, .iload_n 1, 1, 0, 0, 0, 0), (56, .iaload, 1, 0, 0, 0, 0), (57, .iconst (-1), 1, 0, 0, 0, 0), (58, .if_icmp .eq 13, 3, 0, 71, 0, 0), (61, .aload_n 0, 1, 0, 0, 0, 0), (62, .aload_n 0, 1, 0, 0, 0, 0), (63, .getfield 18, 3, 0, 7, 2, 1), (66, .iload_n 1, 1, 0, 0, 0, 0), (67, .iaload, 1, 0, 0, 0, 0), (68, .invokevirtual 85, 3, 0, 12, 1, 702), (71, .iinc 1 (-1), 3, 0, 0, 0, 0), (74, .goto (-67), 3, 0, 7, 0, 0), (77, .return_, 1, 1, 0, 0, 0)]
def am_m13 : am_M := (yX7_spreadMarks, cX7_spreadMarks, 2, none, am_r13)
def am_r14 : List am_I := [(0, .iconst 0, 1, 0, 0, 0, 0), (1, .istore_n 1, 1, 0, 0, 0, 0), (2, .iconst 0, 1, 0, 0, 0, 0), (3, .istore_n 2, 1, 0, 0, 0, 0), (4, .iload_n 2, 1, 9, 0, 0, 0), (5, .aload_n 0, 1, 0, 0, 0, 0), (6, .getfield 36, 3, 0, 7, 8, 0), (9, .if_icmp .ge 31, 3, 0, 40, 0, 0), (12, .aload_n 0, 1, 0, 0, 0, 0), (13, .getfield 30, 3, 0, 7, 6, 1), (16, .iload_n 2, 1, 0, 0, 0, 0), (17, .iaload, 1, 0, 0, 0, 0), (18, .iconst (-1), 1, 0, 0, 0, 0), (19, .if_icmp .eq 15, 3, 0, 34, 0, 0), (22, .aload_n 0, 1, 0, 0, 0, 0), (23, .getfield 9, 3, 0, 7, 0, 1), (26, .iload_n 2, 1, 0, 0, 0, 0), (27, .iaload, 1, 0, 0, 0, 0), (28, .ifCond .ge 6, 3, 0, 34, 0, 0), (31, .iinc 1 1, 3, 0, 0, 0, 0), (34, .iinc 2 1, 3, 0, 0, 0, 0), (37, .goto (-33), 3, 0, 4, 0, 0), (40, .iload_n 1, 1, 0, 0, 0, 0), (41, .ireturn, 1, 1, 0, 0, 0)]
def am_m14 : am_M := (yX7_markedVariables, cX7_markedVariables, 3, (some .int), am_r14)
def am_r15 : List am_I := [(0, .iconst (-1), 1, 0, 0, 0, 0), (1, .istore_n 2, 1, 0, 0, 0, 0), (2, .iconst 0, 1, 0, 0, 0, 0), (3, .istore_n 3, 1, 0, 0, 0, 0), (4, .iload_n 3, 1, 17, 0, 0, 0), (5, .aload_n 0, 1, 0, 0, 0, 0), (6, .getfield 36, 3, 0, 7, 8, 0), (9, .if_icmp .ge 74, 3, 0, 83, 0, 0), (12, .aload_n 0, 1, 0, 0, 0, 0), (13, .getfield 30, 3, 0, 7, 6, 1), (16, .iload_n 3, 1, 0, 0, 0, 0), (17, .iaload, 1, 0, 0, 0, 0), (18, .iconst (-1), 1, 0, 0, 0, 0), (19, .if_icmp .eq 28, 3, 0, 47, 0, 0), (22, .aload_n 0, 1, 0, 0, 0, 0), (23, .getfield 9, 3, 0, 7, 0, 1), (26, .iload_n 3, 1, 0, 0, 0, 0), (27, .iaload, 1, 0, 0, 0, 0), (28, .ifCond .ge 19, 3, 0, 47, 0, 0), (31, .iconst (-1), 1, 0, 0, 0, 0), (32, .aload_n 0, 1, 0, 0, 0, 0), (33, .getfield 9, 3, 0, 7, 0, 1), (36, .iload_n 3, 1, 0, 0, 0, 0), (37, .iaload, 1, 0, 0, 0, 0), (38, .isub, 1, 0, 0, 0, 0), (39, .iload_n 1, 1, 0, 0, 0, 0), (40, .if_icmp .lt 7, 3, 0, 47, 0, 0), (43, .iconst 1, 1, 0, 0, 0, 0), (44, .goto 4, 3, 0, 48, 0, 0), (47, .iconst 0, 1, 0, 0, 0, 0), (48, .istore 4, 2, 17, 0, 0, 0), (50, .iload 4, 2, 0, 0, 0, 0), (52, .ifCond .eq 25, 3, 0, 77, 0, 0), (55, .iload_n 2, 1, 0, 0, 0, 0), (56, .iconst (-1), 1, 0, 0, 0, 0), (57, .if_icmp .eq 18, 3, 0, 75, 0, 0), (60, .aload_n 0, 1, 0, 0, 0, 0), (61, .getfield 9, 3, 0, 7, 0, 1), (64, .iload_n 3, 1, 0, 0, 0, 0), (65, .iaload, 1, 0, 0, 0, 0), (66, .aload_n 0, 1, 0, 0, 0, 0), (67, .getfield 9, 3, 0, 7, 0, 1), (70, .iload_n 2, 1, 0, 0, 0, 0), (71, .iaload, 1, 0, 0, 0, 0), (72, .if_icmp .le 5, 3, 0, 77, 0, 0), (75, .iload_n 3, 1, 0, 0, 0, 0), (76, .istore_n 2, 1, 0, 0, 0, 0), (77, .iinc 3 1, 3, 0, 0, 0, 0), (80, .goto (-76), 3, 0, 4, 0, 0), (83, .iload_n 2, 1, 0, 0, 0, 0), (84, .ireturn, 1, 1, 0, 0, 0)]
def am_m15 : am_M := (yX7_lowestMarkedVariable, cX7_lowestMarkedVariable, 5, (some .int), am_r15)
def am_r16 : List am_I := [(0, .aload_n 0, 1, 0, 0, 0, 0), (1, .iconst (-1), 1, 0, 0, 0, 0), (2, .iload_n 1, 1, 0, 0, 0, 0), (3, .isub, 1, 0, 0, 0, 0), (4, .iconst (-1), 1, 0, 0, 0, 0), (5, .iconst (-1), 1, 0, 0, 0, 0), (6, .invokestatic 50, 3, 0, 6, 3, 13), (9, .iconst (-1), 1, 0, 0, 0, 0), (10, .iload_n 1, 1, 0, 0, 0, 0), (11, .isub, 1, 0, 0, 0, 0), (12, .iconst (-1), 1, 0, 0, 0, 0), (13, .iconst (-1), 1, 0, 0, 0, 0), (14, .invokevirtual 53, 3, 0, 4, 4, 712), (17, .istore_n 3, 1, 0, 0, 0, 0), (18, .iload_n 3, 1, 0, 0, 0, 0), (19, .iconst (-1), 1, 0, 0, 0, 0), (20, .if_icmp .eq 20, 3, 0, 40, 0, 0), (23, .aload_n 0, 1, 0, 0, 0, 0), (24, .getfield 30, 3, 0, 7, 6, 1), (27, .iload_n 3, 1, 0, 0, 0, 0), (28, .iaload, 1, 0, 0, 0, 0), (29, .iconst (-1), 1, 0, 0, 0, 0), (30, .if_icmp .eq 10, 3, 0, 40, 0, 0), (33, .aload_n 0, 1, 0, 0, 0, 0), (34, .getfield 30, 3, 0, 7, 6, 1), (37, .iload_n 3, 1, 0, 0, 0, 0), (38, .iload_n 2, 1, 0, 0, 0, 0), (39, .iastore, 1, 0, 0, 0, 0), (40, .return_, 1, 1, 0, 0, 0)]
def am_m16 : am_M := (yX7_putIn, cX7_putIn, 4, none, am_r16)
def am_r17 : List am_I := [(0, .aload_n 0, 1, 0, 0, 0, 0), (1, .getfield 36, 3, 0, 7, 8, 0), (4, .istore_n 1, 1, 0, 0, 0, 0), (5, .iconst 0, 1, 0, 0, 0, 0), (6, .istore_n 2, 1, 0, 0, 0, 0), (7, .iload_n 2, 1, 9, 0, 0, 0), (8, .iload_n 1, 1, 0, 0, 0, 0), (9, .if_icmp .ge 75, 3, 0, 84, 0, 0), (12, .aload_n 0, 1, 0, 0, 0, 0), (13, .getfield 30, 3, 0, 7, 6, 1), (16, .iload_n 2, 1, 0, 0, 0, 0), (17, .iaload, 1, 0, 0, 0, 0), (18, .iconst (-1), 1, 0, 0, 0, 0), (19, .if_icmp .eq 59, 3, 0, 78, 0, 0), (22, .aload_n 0, 1, 0, 0, 0, 0), (23, .getfield 15, 3, 0, 7, 1, 1), (26, .iload_n 2, 1, 0, 0, 0, 0), (27, .iaload, 1, 0, 0, 0, 0), (28, .iconst (-1), 1, 0, 0, 0, 0), (29, .if_icmp .eq 49, 3, 0, 78, 0, 0), (32, .aload_n 0, 1, 0, 0, 0, 0), (33, .aload_n 0, 1, 0, 0, 0, 0), (34, .getfield 9, 3, 0, 7, 0, 1), (37, .iload_n 2, 1, 0, 0, 0, 0), (38, .iaload, 1, 0, 0, 0, 0), (39, .aload_n 0, 1, 0, 0, 0, 0), (40, .aload_n 0, 1, 0, 0, 0, 0), (41, .getfield 15, 3, 0, 7, 1, 1), (44, .iload_n 2, 1, 0, 0, 0, 0), (45, .iaload, 1, 0, 0, 0, 0), (46, .invokevirtual 89, 3, 0, 19, 1, 712), (49, .aload_n 0, 1, 0, 0, 0, 0), (50, .aload_n 0, 1, 0, 0, 0, 0), (51, .getfield 18, 3, 0, 7, 2, 1), (54, .iload_n 2, 1, 0, 0, 0, 0), (55, .iaload, 1, 0, 0, 0, 0), (56, .invokevirtual 89, 3, 0, 19, 1, 712), (59, .invokevirtual 46, 3, 0, 3, 3, 712), (62, .istore_n 3, 1, 0, 0, 0, 0), (63, .iload_n 3, 1, 0, 0, 0, 0), (64, .bipush (-2), 2, 0, 0, 0, 0), (66, .if_icmp .ne 5, 3, 0, 71, 0, 0), (69, .iconst 0, 1, 0, 0, 0, 0), (70, .ireturn, 1, 1, 1, 0, 0), (71, .aload_n 0, 1, 0, 0, 0, 0), (72, .getfield 30, 3, 0, 7, 6, 1), (75, .iload_n 2, 1, 0, 0, 0, 0), (76, .iload_n 3, 1, 0, 0, 0, 0), (77, .iastore, 1, 0, 0, 0, 0), (78, .iinc 2 1, 3, 0, 0, 0, 0), (81, .goto (-74), 3, 0, 7, 0, 0), (84, .iconst 1, 1, 0, 0, 0, 0), (85, .ireturn, 1, 1, 1, 0, 0)]
def am_m17 : am_M := (yX7_makeImages, cX7_makeImages, 4, (some .boolean), am_r17)
def am_r18 : List am_I := [(0, .aload_n 0, 1, 0, 0, 0, 0), (1, .getfield 36, 3, 0, 7, 8, 0), (4, .istore_n 2, 1, 0, 0, 0, 0), (5, .aload_n 0, 1, 0, 0, 0, 0), (6, .iload_n 1, 1, 0, 0, 0, 0), (7, .invokevirtual 93, 3, 0, 7, 1, 702), (10, .iload_n 1, 1, 0, 0, 0, 0), (11, .istore_n 3, 1, 0, 0, 0, 0), (12, .iload_n 3, 1, 15, 0, 0, 0), (13, .iload_n 2, 1, 0, 0, 0, 0), (14, .if_icmp .ge 59, 3, 0, 73, 0, 0), (17, .aload_n 0, 1, 0, 0, 0, 0), (18, .getfield 30, 3, 0, 7, 6, 1), (21, .iload_n 3, 1, 0, 0, 0, 0), (22, .iaload, 1, 0, 0, 0, 0), (23, .iconst (-1), 1, 0, 0, 0, 0), (24, .if_icmp .eq 43, 3, 0, 67, 0, 0), (27, .aload_n 0, 1, 0, 0, 0, 0), (28, .aload_n 0, 1, 0, 0, 0, 0), (29, .getfield 9, 3, 0, 7, 0, 1), (32, .iload_n 3, 1, 0, 0, 0, 0), (33, .iaload, 1, 0, 0, 0, 0), (34, .aload_n 0, 1, 0, 0, 0, 0), (35, .aload_n 0, 1, 0, 0, 0, 0), (36, .getfield 15, 3, 0, 7, 1, 1), (39, .iload_n 3, 1, 0, 0, 0, 0), (40, .iaload, 1, 0, 0, 0, 0), (41, .invokevirtual 89, 3, 0, 19, 1, 712), (44, .aload_n 0, 1, 0, 0, 0, 0), (45, .aload_n 0, 1, 0, 0, 0, 0), (46, .getfield 18, 3, 0, 7, 2, 1), (49, .iload_n 3, 1, 0, 0, 0, 0), (50, .iaload, 1, 0, 0, 0, 0), (51, .invokevirtual 89, 3, 0, 19, 1, 712), (54, .invokevirtual 46, 3, 0, 3, 3, 712), (57, .istore 4, 2, 0, 0, 0, 0), (59, .aload_n 0, 1, 0, 0, 0, 0), (60, .getfield 30, 3, 0, 7, 6, 1), (63, .iload_n 3, 1, 0, 0, 0, 0), (64, .iload 4, 2, 0, 0, 0, 0), (66, .iastore, 1, 0, 0, 0, 0), (67, .iinc 3 1, 3, 0, 0, 0, 0), (70, .goto (-58), 3, 0, 12, 0, 0), (73, .return_, 1, 1, 0, 0, 0)]
def am_m18 : am_M := (yX7_shortenToMarked, cX7_shortenToMarked, 5, none, am_r18)
def am_r19 : List am_I := [(0, .iload_n 1, 1, 0, 0, 0, 0), (1, .iconst (-1), 1, 0, 0, 0, 0), (2, .if_icmp .ne 7, 3, 0, 9, 0, 0), (5, .iconst (-1), 1, 0, 0, 0, 0), (6, .goto 9, 3, 0, 15, 0, 0), (9, .aload_n 0, 1, 0, 0, 0, 0), (10, .getfield 30, 3, 0, 7, 6, 1), (13, .iload_n 1, 1, 0, 0, 0, 0), (14, .iaload, 1, 0, 0, 0, 0), (15, .ireturn, 1, 1, 0, 0, 0)]
def am_m19 : am_M := (yX7_imageOf, cX7_imageOf, 2, (some .int), am_r19)
def am_r20 : List am_I := [(0, .aload_n 0, 1, 0, 0, 0, 0), (1, .invokevirtual 96, 3, 0, 11, 0, 702), (4, .aload_n 0, 1, 0, 0, 0, 0), (5, .iload_n 1, 1, 0, 0, 0, 0), (6, .iload_n 2, 1, 0, 0, 0, 0), (7, .iconst 1, 1, 0, 0, 0, 0), (8, .invokevirtual 99, 3, 0, 21, 3, 712), (11, .ireturn, 1, 1, 1, 0, 0)]
def am_m20 : am_M := (yX7_becomes, cX7_becomes, 3, (some .boolean), am_r20)
def am_r21 : List am_I := [(0, .iload_n 3, 1, 0, 0, 0, 0), (1, .bipush 24, 2, 0, 0, 0, 0), (3, .if_icmp .le 5, 3, 0, 8, 0, 0), (6, .iconst 0, 1, 0, 0, 0, 0), (7, .ireturn, 1, 1, 1, 0, 0), (8, .aload_n 0, 1, 0, 0, 0, 0), (9, .getfield 9, 3, 0, 7, 0, 1), (12, .iload_n 1, 1, 0, 0, 0, 0), (13, .iaload, 1, 0, 0, 0, 0), (14, .ifCond .ge 36, 3, 0, 50, 0, 0), (17, .aload_n 0, 1, 0, 0, 0, 0), (18, .getfield 30, 3, 0, 7, 6, 1), (21, .iload_n 1, 1, 0, 0, 0, 0), (22, .iaload, 1, 0, 0, 0, 0), (23, .iconst (-1), 1, 0, 0, 0, 0), (24, .if_icmp .ne 10, 3, 0, 34, 0, 0), (27, .aload_n 0, 1, 0, 0, 0, 0), (28, .getfield 30, 3, 0, 7, 6, 1), (31, .iload_n 1, 1, 0, 0, 0, 0), (32, .iload_n 2, 1, 0, 0, 0, 0), (33, .iastore, 1, 0, 0, 0, 0), (34, .aload_n 0, 1, 0, 0, 0, 0), (35, .getfield 30, 3, 0, 7, 6, 1), (38, .iload_n 1, 1, 0, 0, 0, 0), (39, .iaload, 1, 0, 0, 0, 0), (40, .iload_n 2, 1, 0, 0, 0, 0), (41, .if_icmp .ne 7, 3, 0, 48, 0, 0), (44, .iconst 1, 1, 0, 0, 0, 0), (45, .goto 4, 3, 0, 49, 0, 0), (48, .iconst 0, 1, 0, 0, 0, 0), (49, .ireturn, 1, 1, 1, 0, 0), (50, .aload_n 0, 1, 0, 0, 0, 0), (51, .getfield 9, 3, 0, 7, 0, 1), (54, .iload_n 1, 1, 0, 0, 0, 0), (55, .iaload, 1, 0, 0, 0, 0), (56, .aload_n 0, 1, 0, 0, 0, 0), (57, .getfield 9, 3, 0, 7, 0, 1), (60, .iload_n 2, 1, 0, 0, 0, 0), (61, .iaload, 1, 0, 0, 0, 0), (62, .if_icmp .eq 5, 3, 0, 67, 0, 0), (65, .iconst 0, 1, 0, 0, 0, 0), (66, .ireturn, 1, 1, 1, 0, 0), (67, .aload_n 0, 1, 0, 0, 0, 0), (68, .getfield 15, 3, 0, 7, 1, 1), (71, .iload_n 1, 1, 0, 0, 0, 0), (72, .iaload, 1, 0, 0, 0, 0), (73, .iconst (-1), 1, 0, 0, 0, 0), (74, .if_icmp .eq 25, 3, 0, 99, 0, 0), (77, .aload_n 0, 1, 0, 0, 0, 0), (78, .aload_n 0, 1, 0, 0, 0, 0), (79, .getfield 15, 3, 0, 7, 1, 1), (82, .iload_n 1, 1, 0, 0, 0, 0), (83, .iaload, 1, 0, 0, 0, 0), (84, .aload_n 0, 1, 0, 0, 0, 0), (85, .getfield 15, 3, 0, 7, 1, 1), (88, .iload_n 2, 1, 0, 0, 0, 0), (89, .iaload, 1, 0, 0, 0, 0), (90, .iload_n 3, 1, 0, 0, 0, 0), (91, .iconst 1, 1, 0, 0, 0, 0), (92, .iadd, 1, 0, 0, 0, 0), (93, .invokevirtual 99, 3, 0, 21, 3, 712), (96, .ifCond .eq 39, 3, 0, 135, 0, 0), (99, .aload_n 0, 1, 17, 0, 0, 0), (100, .getfield 18, 3, 0, 7, 2, 1), (103, .iload_n 1, 1, 0, 0, 0, 0), (104, .iaload, 1, 0, 0, 0, 0), (105, .iconst (-1), 1, 0, 0, 0, 0), (106, .if_icmp .eq 25, 3, 0, 131, 0, 0), (109, .aload_n 0, 1, 0, 0, 0, 0), (110, .aload_n 0, 1, 0, 0, 0, 0), (111, .getfield 18, 3, 0, 7, 2, 1), (114, .iload_n 1, 1, 0, 0, 0, 0), (115, .iaload, 1, 0, 0, 0, 0), (116, .aload_n 0, 1, 0, 0, 0, 0), (117, .getfield 18, 3, 0, 7, 2, 1), (120, .iload_n 2, 1, 0, 0, 0, 0), (121, .iaload, 1, 0, 0, 0, 0), (122, .iload_n 3, 1, 0, 0, 0, 0), (123, .iconst 1, 1, 0, 0, 0, 0), (124, .iadd, 1, 0, 0, 0, 0), (125, .invokevirtual 99, 3, 0, 21, 3, 712), (128, .ifCond .eq 7, 3, 0, 135, 0, 0), (131, .iconst 1, 1, 0, 0, 0, 0), (132, .goto 4, 3, 0, 136, 0, 0), (135, .iconst 0, 1, 0, 0, 0, 0), (136, .ireturn, 1, 1, 1, 0, 0)]
def am_m21 : am_M := (yX7_matches, cX7_matches, 4, (some .boolean), am_r21)
def am_r22 : List am_I := [(0, .aload_n 0, 1, 0, 0, 0, 0), (1, .invokespecial 3, 3, 0, 0, 0, 0), (4, .aload_n 0, 1, 0, 0, 0, 0), (5, .bipush 40, 2, 0, 0, 0, 0), (7, .newarray .int, 2, 0, 0, 0, 0), (9, .putfield 9, 3, 0, 5, 0, 7), (12, .aload_n 0, 1, 0, 0, 0, 0), (13, .sipush 200, 3, 0, 0, 0, 0), (16, .newarray .int, 2, 0, 0, 0, 0), (18, .putfield 15, 3, 0, 5, 1, 7), (21, .aload_n 0, 1, 0, 0, 0, 0), (22, .iconst 3, 1, 0, 0, 0, 0), (23, .putfield 18, 3, 0, 5, 2, 0), (26, .aload_n 0, 1, 0, 0, 0, 0), (27, .iconst 2, 1, 0, 0, 0, 0), (28, .putfield 22, 3, 0, 5, 3, 0), (31, .aload_n 0, 1, 0, 0, 0, 0), (32, .iconst 3, 1, 0, 0, 0, 0), (33, .putfield 25, 3, 0, 5, 4, 0), (36, .aload_n 0, 1, 0, 0, 0, 0), (37, .iconst 2, 1, 0, 0, 0, 0), (38, .putfield 28, 3, 0, 5, 5, 0), (41, .aload_n 0, 1, 0, 0, 0, 0), (42, .getfield 9, 3, 0, 5, 0, 1), (45, .iconst 2, 1, 0, 0, 0, 0), (46, .iconst 2, 1, 0, 0, 0, 0), (47, .iastore, 1, 0, 0, 0, 0), (48, .aload_n 1, 1, 0, 0, 0, 0), (49, .iconst 2, 1, 0, 0, 0, 0), (50, .iconst 0, 1, 0, 0, 0, 0), (51, .iconst 1, 1, 0, 0, 0, 0), (52, .invokevirtual 31, 3, 0, 3, 3, 712), (55, .istore_n 2, 1, 0, 0, 0, 0), (56, .aload_n 0, 1, 0, 0, 0, 0), (57, .getfield 15, 3, 0, 5, 1, 1), (60, .iconst 0, 1, 0, 0, 0, 0), (61, .aload_n 1, 1, 0, 0, 0, 0), (62, .iconst 2, 1, 0, 0, 0, 0), (63, .iconst 0, 1, 0, 0, 0, 0), (64, .iload_n 2, 1, 0, 0, 0, 0), (65, .invokevirtual 31, 3, 0, 3, 3, 712), (68, .iastore, 1, 0, 0, 0, 0), (69, .aload_n 0, 1, 0, 0, 0, 0), (70, .getfield 15, 3, 0, 5, 1, 1), (73, .iconst 1, 1, 0, 0, 0, 0), (74, .aload_n 1, 1, 0, 0, 0, 0), (75, .iconst 2, 1, 0, 0, 0, 0), (76, .iload_n 2, 1, 0, 0, 0, 0), (77, .iconst 0, 1, 0, 0, 0, 0), (78, .invokevirtual 31, 3, 0, 3, 3, 712), (81, .iastore, 1, 0, 0, 0, 0), (82, .return_, 1, 1, 0, 0, 0)]
def am_m22 : am_M := (yX5_init, cX5_init, 3, none, am_r22)
def am_r23 : List am_I := [(0, .iload_n 1, 1, 0, 0, 0, 0), (1, .ifCond .lt 15, 3, 0, 16, 0, 0), (4, .iload_n 1, 1, 0, 0, 0, 0), (5, .aload_n 0, 1, 0, 0, 0, 0), (6, .getfield 18, 3, 0, 5, 2, 0), (9, .if_icmp .ge 7, 3, 0, 16, 0, 0), (12, .iconst 1, 1, 0, 0, 0, 0), (13, .goto 4, 3, 0, 17, 0, 0), (16, .iconst 0, 1, 0, 0, 0, 0), (17, .ireturn, 1, 1, 1, 0, 0)]
def am_m23 : am_M := (yX5_hasConstructor, cX5_hasConstructor, 2, (some .boolean), am_r23)
def am_r24 : List am_I := [(0, .iload_n 1, 1, 0, 0, 0, 0), (1, .ifCond .lt 15, 3, 0, 16, 0, 0), (4, .iload_n 1, 1, 0, 0, 0, 0), (5, .aload_n 0, 1, 0, 0, 0, 0), (6, .getfield 22, 3, 0, 5, 3, 0), (9, .if_icmp .ge 7, 3, 0, 16, 0, 0), (12, .iconst 1, 1, 0, 0, 0, 0), (13, .goto 4, 3, 0, 17, 0, 0), (16, .iconst 0, 1, 0, 0, 0, 0), (17, .ireturn, 1, 1, 1, 0, 0)]
def am_m24 : am_M := (yX5_hasConstant, cX5_hasConstant, 2, (some .boolean), am_r24)
def am_r25 : List am_I := [(0, .aload_n 0, 1, 0, 0, 0, 0), (1, .getfield 18, 3, 0, 5, 2, 0), (4, .bipush 40, 2, 0, 0, 0, 0), (6, .if_icmp .lt 5, 3, 0, 11, 0, 0), (9, .iconst (-1), 1, 0, 0, 0, 0), (10, .ireturn, 1, 1, 0, 0, 0), (11, .aload_n 0, 1, 0, 0, 0, 0), (12, .getfield 9, 3, 0, 5, 0, 1), (15, .aload_n 0, 1, 0, 0, 0, 0), (16, .getfield 18, 3, 0, 5, 2, 0), (19, .iload_n 1, 1, 0, 0, 0, 0), (20, .iastore, 1, 0, 0, 0, 0), (21, .aload_n 0, 1, 0, 0, 0, 0), (22, .dup, 1, 0, 0, 0, 0), (23, .getfield 18, 3, 0, 5, 2, 0), (26, .iconst 1, 1, 0, 0, 0, 0), (27, .iadd, 1, 0, 0, 0, 0), (28, .putfield 18, 3, 0, 5, 2, 0), (31, .aload_n 0, 1, 0, 0, 0, 0), (32, .getfield 18, 3, 0, 5, 2, 0), (35, .iconst 1, 1, 0, 0, 0, 0), (36, .isub, 1, 0, 0, 0, 0), (37, .ireturn, 1, 1, 0, 0, 0)]
def am_m25 : am_M := (yX5_addConstructor, cX5_addConstructor, 2, (some .int), am_r25)
def am_r26 : List am_I := [(0, .aload_n 0, 1, 0, 0, 0, 0), (1, .getfield 22, 3, 0, 5, 3, 0), (4, .sipush 200, 3, 0, 0, 0, 0), (7, .if_icmp .lt 5, 3, 0, 12, 0, 0), (10, .iconst (-1), 1, 0, 0, 0, 0), (11, .ireturn, 1, 1, 0, 0, 0), (12, .aload_n 0, 1, 0, 0, 0, 0), (13, .getfield 15, 3, 0, 5, 1, 1), (16, .aload_n 0, 1, 0, 0, 0, 0), (17, .getfield 22, 3, 0, 5, 3, 0), (20, .iload_n 1, 1, 0, 0, 0, 0), (21, .iastore, 1, 0, 0, 0, 0), (22, .aload_n 0, 1, 0, 0, 0, 0), (23, .dup, 1, 0, 0, 0, 0), (24, .getfield 22, 3, 0, 5, 3, 0), (27, .iconst 1, 1, 0, 0, 0, 0), (28, .iadd, 1, 0, 0, 0, 0), (29, .putfield 22, 3, 0, 5, 3, 0), (32, .aload_n 0, 1, 0, 0, 0, 0), (33, .getfield 22, 3, 0, 5, 3, 0), (36, .iconst 1, 1, 0, 0, 0, 0), (37, .isub, 1, 0, 0, 0, 0), (38, .ireturn, 1, 1, 0, 0, 0)]
def am_m26 : am_M := (yX5_addConstant, cX5_addConstant, 2, (some .int), am_r26)
def am_r27 : List am_I := [(0, .aload_n 0, 1, 0, 0, 0, 0), (1, .aload_n 0, 1, 0, 0, 0, 0), (2, .getfield 18, 3, 0, 5, 2, 0), (5, .putfield 25, 3, 0, 5, 4, 0), (8, .aload_n 0, 1, 0, 0, 0, 0), (9, .aload_n 0, 1, 0, 0, 0, 0), (10, .getfield 22, 3, 0, 5, 3, 0), (13, .putfield 28, 3, 0, 5, 5, 0), (16, .return_, 1, 1, 0, 0, 0)]
def am_m27 : am_M := (yX5_remember, cX5_remember, 1, none, am_r27)
def am_r28 : List am_I := [(0, .aload_n 0, 1, 0, 0, 0, 0), (1, .aload_n 0, 1, 0, 0, 0, 0), (2, .getfield 25, 3, 0, 5, 4, 0), (5, .putfield 18, 3, 0, 5, 2, 0), (8, .aload_n 0, 1, 0, 0, 0, 0), (9, .aload_n 0, 1, 0, 0, 0, 0), (10, .getfield 28, 3, 0, 5, 5, 0), (13, .putfield 22, 3, 0, 5, 3, 0), (16, .return_, 1, 1, 0, 0, 0)]
def am_m28 : am_M := (yX5_undo, cX5_undo, 1, none, am_r28)
def am_r29 : List am_I := [(0, .aload_n 0, 1, 0, 0, 0, 0), (1, .invokespecial 3, 3, 0, 0, 0, 0), (4, .aload_n 0, 1, 0, 0, 0, 0), (5, .bipush 64, 2, 0, 0, 0, 0), (7, .newarray .int, 2, 0, 0, 0, 0), (9, .putfield 9, 3, 0, 1, 2, 1), (12, .aload_n 0, 1, 0, 0, 0, 0), (13, .iconst 0, 1, 0, 0, 0, 0), (14, .putfield 15, 3, 0, 1, 3, 0), (17, .aload_n 0, 1, 0, 0, 0, 0), (18, .bipush 64, 2, 0, 0, 0, 0), (20, .newarray .int, 2, 0, 0, 0, 0), (22, .putfield 19, 3, 0, 1, 4, 1), (25, .aload_n 0, 1, 0, 0, 0, 0), (26, .bipush 64, 2, 0, 0, 0, 0), (28, .newarray .int, 2, 0, 0, 0, 0), (30, .putfield 22, 3, 0, 1, 5, 1), (33, .aload_n 0, 1, 0, 0, 0, 0), (34, .bipush 64, 2, 0, 0, 0, 0), (36, .newarray .int, 2, 0, 0, 0, 0), (38, .putfield 25, 3, 0, 1, 6, 1), (41, .aload_n 0, 1, 0, 0, 0, 0), (42, .bipush 64, 2, 0, 0, 0, 0), (44, .newarray .int, 2, 0, 0, 0, 0), (46, .putfield 28, 3, 0, 1, 7, 1), (49, .aload_n 0, 1, 0, 0, 0, 0), (50, .bipush 64, 2, 0, 0, 0, 0), (52, .newarray .int, 2, 0, 0, 0, 0), (54, .putfield 31, 3, 0, 1, 8, 1), (57, .aload_n 0, 1, 0, 0, 0, 0), (58, .bipush 64, 2, 0, 0, 0, 0), (60, .newarray .int, 2, 0, 0, 0, 0), (62, .putfield 34, 3, 0, 1, 9, 1), (65, .aload_n 0, 1, 0, 0, 0, 0), (66, .bipush 64, 2, 0, 0, 0, 0), (68, .newarray .int, 2, 0, 0, 0, 0), (70, .putfield 37, 3, 0, 1, 10, 1), (73, .aload_n 0, 1, 0, 0, 0, 0), (74, .iconst 0, 1, 0, 0, 0, 0), (75, .putfield 40, 3, 0, 1, 11, 0), (78, .aload_n 0, 1, 0, 0, 0, 0), (79, .bipush 122, 2, 0, 0, 0, 0), (81, .newarray .int, 2, 0, 0, 0, 0), (83, .putfield 43, 3, 0, 1, 12, 7), (86, .aload_n 0, 1, 0, 0, 0, 0), (87, .bipush 122, 2, 0, 0, 0, 0), (89, .newarray .int, 2, 0, 0, 0, 0), (91, .putfield 46, 3, 0, 1, 13, 7), (94, .aload_n 0, 1, 0, 0, 0, 0), (95, .aload_n 1, 1, 0, 0, 0, 0), (96, .putfield 49, 3, 0, 1, 0, 7), (99, .aload_n 0, 1, 0, 0, 0, 0), (100, .aload_n 2, 1, 0, 0, 0, 0), (101, .putfield 53, 3, 0, 1, 1, 7), (104, .return_, 1, 1, 0, 0, 0)]
def am_m29 : am_M := (yX1_init, cX1_init, 3, none, am_r29)
def am_r30 : List am_I := [(0, .aload_n 0, 1, 0, 0, 0, 0), (1, .iload_n 1, 1, 0, 0, 0, 0), (2, .putfield 15, 3, 0, 1, 3, 0), (5, .aload_n 0, 1, 0, 0, 0, 0), (6, .iload_n 2, 1, 0, 0, 0, 0), (7, .putfield 40, 3, 0, 1, 11, 0), (10, .return_, 1, 1, 0, 0, 0)]
def am_m30 : am_M := (yX1_shorten, cX1_shorten, 3, none, am_r30)
def am_r31 : List am_I := [(0, .iload_n 1, 1, 0, 0, 0, 0), (1, .ifCond .lt 15, 3, 0, 16, 0, 0), (4, .iload_n 1, 1, 0, 0, 0, 0), (5, .aload_n 0, 1, 0, 0, 0, 0), (6, .getfield 15, 3, 0, 1, 3, 0), (9, .if_icmp .ge 7, 3, 0, 16, 0, 0), (12, .iconst 1, 1, 0, 0, 0, 0), (13, .goto 4, 3, 0, 17, 0, 0), (16, .iconst 0, 1, 0, 0, 0, 0), (17, .ireturn, 1, 1, 1, 0, 0)]
def am_m31 : am_M := (yX1_hasType, cX1_hasType, 2, (some .boolean), am_r31)
def am_r32 : List am_I := [(0, .iload_n 1, 1, 0, 0, 0, 0), (1, .ifCond .lt 15, 3, 0, 16, 0, 0), (4, .iload_n 1, 1, 0, 0, 0, 0), (5, .aload_n 0, 1, 0, 0, 0, 0), (6, .getfield 40, 3, 0, 1, 11, 0), (9, .if_icmp .ge 7, 3, 0, 16, 0, 0), (12, .iconst 1, 1, 0, 0, 0, 0), (13, .goto 4, 3, 0, 17, 0, 0), (16, .iconst 0, 1, 0, 0, 0, 0), (17, .ireturn, 1, 1, 1, 0, 0)]
def am_m32 : am_M := (yX1_hasTerm, cX1_hasTerm, 2, (some .boolean), am_r32)
def am_r33 : List am_I := [(0, .aload_n 0, 1, 0, 0, 0, 0), (1, .iload_n 1, 1, 0, 0, 0, 0), (2, .invokevirtual 57, 3, 0, 32, 1, 112), (5, .ifCond .eq 16, 3, 0, 21, 0, 0), (8, .aload_n 0, 1, 0, 0, 0, 0), (9, .getfield 37, 3, 0, 1, 10, 1), (12, .iload_n 1, 1, 0, 0, 0, 0), (13, .iaload, 1, 0, 0, 0, 0), (14, .ifCond .ne 7, 3, 0, 21, 0, 0), (17, .iconst 1, 1, 0, 0, 0, 0), (18, .goto 4, 3, 0, 22, 0, 0), (21, .iconst 0, 1, 0, 0, 0, 0), (22, .ireturn, 1, 1, 1, 0, 0)]
def am_m33 : am_M := (yX1_isClosed, cX1_isClosed, 2, (some .boolean), am_r33)
def am_r34 : List am_I := [(0, .aload_n 0, 1, 0, 0, 0, 0), (1, .iload_n 1, 1, 0, 0, 0, 0), (2, .invokevirtual 57, 3, 0, 32, 1, 112), (5, .ifCond .eq 28, 3, 0, 33, 0, 0), (8, .aload_n 0, 1, 0, 0, 0, 0), (9, .getfield 19, 3, 0, 1, 4, 1), (12, .iload_n 1, 1, 0, 0, 0, 0), (13, .iaload, 1, 0, 0, 0, 0), (14, .ifCond .lt 19, 3, 0, 33, 0, 0), (17, .aload_n 0, 1, 0, 0, 0, 0), (18, .getfield 19, 3, 0, 1, 4, 1), (21, .iload_n 1, 1, 0, 0, 0, 0), (22, .iaload, 1, 0, 0, 0, 0), (23, .iconst 4, 1, 0, 0, 0, 0), (24, .irem, 1, 0, 0, 0, 0), (25, .iconst 1, 1, 0, 0, 0, 0), (26, .if_icmp .ne 7, 3, 0, 33, 0, 0), (29, .iconst 1, 1, 0, 0, 0, 0), (30, .goto 4, 3, 0, 34, 0, 0), (33, .iconst 0, 1, 0, 0, 0, 0), (34, .ireturn, 1, 1, 1, 0, 0)]
def am_m34 : am_M := (yX1_isFree, cX1_isFree, 2, (some .boolean), am_r34)
def am_r35 : List am_I := [(0, .iload_n 1, 1, 0, 0, 0, 0), (1, .invokestatic 61, 3, 0, 120, 1, 14), (4, .ifCond .eq 26, 3, 0, 30, 0, 0), (7, .aload_n 0, 1, 0, 0, 0, 0), (8, .aload_n 0, 1, 0, 0, 0, 0), (9, .getfield 49, 3, 0, 1, 0, 1), (12, .iconst (-1), 1, 0, 0, 0, 0), (13, .iload_n 1, 1, 0, 0, 0, 0), (14, .isub, 1, 0, 0, 0, 0), (15, .iconst (-1), 1, 0, 0, 0, 0), (16, .iconst (-1), 1, 0, 0, 0, 0), (17, .invokevirtual 64, 3, 0, 3, 3, 712), (20, .invokevirtual 70, 3, 0, 42, 1, 112), (23, .ifCond .eq 7, 3, 0, 30, 0, 0), (26, .iconst 1, 1, 0, 0, 0, 0), (27, .goto 4, 3, 0, 31, 0, 0), (30, .iconst 0, 1, 0, 0, 0, 0), (31, .ireturn, 1, 1, 1, 0, 0)]
def am_m35 : am_M := (yX1_typeVariable, cX1_typeVariable, 2, (some .boolean), am_r35)
def am_r36 : List am_I := [(0, .aload_n 0, 1, 0, 0, 0, 0), (1, .getfield 53, 3, 0, 1, 1, 1), (4, .getfield 73, 3, 0, 5, 0, 3), (7, .iload_n 1, 1, 0, 0, 0, 0), (8, .iaload, 1, 0, 0, 0, 0), (9, .istore 4, 2, 0, 0, 0, 0), (11, .iload 4, 2, 0, 0, 0, 0), (13, .ifCond .le 11, 3, 0, 24, 0, 0), (16, .aload_n 0, 1, 0, 0, 0, 0), (17, .iload_n 2, 1, 0, 0, 0, 0), (18, .invokevirtual 78, 3, 0, 31, 1, 112), (21, .ifCond .eq 17, 3, 0, 38, 0, 0), (24, .iload 4, 2, 0, 0, 0, 0), (26, .iconst 1, 1, 0, 0, 0, 0), (27, .if_icmp .le 13, 3, 0, 40, 0, 0), (30, .aload_n 0, 1, 0, 0, 0, 0), (31, .iload_n 3, 1, 0, 0, 0, 0), (32, .invokevirtual 78, 3, 0, 31, 1, 112), (35, .ifCond .ne 5, 3, 0, 40, 0, 0), (38, .iconst 0, 1, 0, 0, 0, 0), (39, .ireturn, 1, 1, 1, 0, 0), (40, .aload_n 0, 1, 33, 0, 0, 0), (41, .aload_n 0, 1, 0, 0, 0, 0), (42, .getfield 49, 3, 0, 1, 0, 1), (45, .iload_n 1, 1, 0, 0, 0, 0), (46, .iload 4, 2, 0, 0, 0, 0), (48, .ifCond .le 12, 3, 0, 60, 0, 0), (51, .aload_n 0, 1, 0, 0, 0, 0), (52, .getfield 9, 3, 0, 1, 2, 1), (55, .iload_n 2, 1, 0, 0, 0, 0), (56, .iaload, 1, 0, 0, 0, 0), (57, .goto 4, 3, 0, 61, 0, 0), (60, .iconst (-1), 1, 0, 0, 0, 0), (61, .iload 4, 2, 0, 0, 0, 0), (63, .iconst 1, 1, 0, 0, 0, 0), (64, .if_icmp .le 12, 3, 0, 76, 0, 0), (67, .aload_n 0, 1, 0, 0, 0, 0), (68, .getfield 9, 3, 0, 1, 2, 1), (71, .iload_n 3, 1, 0, 0, 0, 0), (72, .iaload, 1, 0, 0, 0, 0), (73, .goto 4, 3, 0, 77, 0, 0), (76, .iconst (-1), 1, 0, 0, 0, 0), (77, .invokevirtual 64, 3, 0, 3, 3, 712), (80, .invokevirtual 70, 3, 0, 42, 1, 112), (83, .ireturn, 1, 1, 1, 0, 0)]
def am_m36 : am_M := (yX1_typeOf, cX1_typeOf, 5, (some .boolean), am_r36)
def am_r37 : List am_I := [(0, .iload_n 1, 1, 0, 0, 0, 0), (1, .invokestatic 61, 3, 0, 120, 1, 14), (4, .ifCond .eq 35, 3, 0, 39, 0, 0), (7, .aload_n 0, 1, 0, 0, 0, 0), (8, .iload_n 2, 1, 0, 0, 0, 0), (9, .invokevirtual 78, 3, 0, 31, 1, 112), (12, .ifCond .eq 27, 3, 0, 39, 0, 0), (15, .aload_n 0, 1, 0, 0, 0, 0), (16, .iconst 4, 1, 0, 0, 0, 0), (17, .iload_n 1, 1, 0, 0, 0, 0), (18, .imul, 1, 0, 0, 0, 0), (19, .iconst 1, 1, 0, 0, 0, 0), (20, .iadd, 1, 0, 0, 0, 0), (21, .aload_n 0, 1, 0, 0, 0, 0), (22, .getfield 9, 3, 0, 1, 2, 1), (25, .iload_n 2, 1, 0, 0, 0, 0), (26, .iaload, 1, 0, 0, 0, 0), (27, .iconst (-1), 1, 0, 0, 0, 0), (28, .iconst (-1), 1, 0, 0, 0, 0), (29, .invokevirtual 81, 3, 0, 43, 4, 112), (32, .ifCond .eq 7, 3, 0, 39, 0, 0), (35, .iconst 1, 1, 0, 0, 0, 0), (36, .goto 4, 3, 0, 40, 0, 0), (39, .iconst 0, 1, 0, 0, 0, 0), (40, .ireturn, 1, 1, 1, 0, 0)]
def am_m37 : am_M := (yX1_freeVariable, cX1_freeVariable, 3, (some .boolean), am_r37)
def am_r38 : List am_I := [(0, .aload_n 0, 1, 0, 0, 0, 0), (1, .getfield 53, 3, 0, 1, 1, 1), (4, .iload_n 1, 1, 0, 0, 0, 0), (5, .invokevirtual 85, 3, 0, 24, 1, 512), (8, .ifCond .eq 60, 3, 0, 68, 0, 0), (11, .aload_n 0, 1, 0, 0, 0, 0), (12, .iload_n 2, 1, 0, 0, 0, 0), (13, .invokevirtual 78, 3, 0, 31, 1, 112), (16, .ifCond .eq 52, 3, 0, 68, 0, 0), (19, .aload_n 0, 1, 0, 0, 0, 0), (20, .getfield 49, 3, 0, 1, 0, 1), (23, .aload_n 0, 1, 0, 0, 0, 0), (24, .getfield 53, 3, 0, 1, 1, 1), (27, .getfield 88, 3, 0, 5, 1, 3), (30, .iload_n 1, 1, 0, 0, 0, 0), (31, .iaload, 1, 0, 0, 0, 0), (32, .aload_n 0, 1, 0, 0, 0, 0), (33, .getfield 9, 3, 0, 1, 2, 1), (36, .iload_n 2, 1, 0, 0, 0, 0), (37, .iaload, 1, 0, 0, 0, 0), (38, .invokevirtual 91, 3, 0, 20, 2, 712), (41, .ifCond .eq 27, 3, 0, 68, 0, 0), (44, .aload_n 0, 1, 0, 0, 0, 0), (45, .iconst 4, 1, 0, 0, 0, 0), (46, .iload_n 1, 1, 0, 0, 0, 0), (47, .imul, 1, 0, 0, 0, 0), (48, .iconst 2, 1, 0, 0, 0, 0), (49, .iadd, 1, 0, 0, 0, 0), (50, .aload_n 0, 1, 0, 0, 0, 0), (51, .getfield 9, 3, 0, 1, 2, 1), (54, .iload_n 2, 1, 0, 0, 0, 0), (55, .iaload, 1, 0, 0, 0, 0), (56, .iconst (-1), 1, 0, 0, 0, 0), (57, .iconst (-1), 1, 0, 0, 0, 0), (58, .invokevirtual 81, 3, 0, 43, 4, 112), (61, .ifCond .eq 7, 3, 0, 68, 0, 0), (64, .iconst 1, 1, 0, 0, 0, 0), (65, .goto 4, 3, 0, 69, 0, 0), (68, .iconst 0, 1, 0, 0, 0, 0), (69, .ireturn, 1, 1, 1, 0, 0)]
def am_m38 : am_M := (yX1_constant, cX1_constant, 3, (some .boolean), am_r38)
def am_r39 : List am_I := [(0, .aload_n 0, 1, 0, 0, 0, 0), (1, .iload_n 1, 1, 0, 0, 0, 0), (2, .invokevirtual 57, 3, 0, 32, 1, 112), (5, .ifCond .eq 27, 3, 0, 32, 0, 0), (8, .aload_n 0, 1, 0, 0, 0, 0), (9, .iload_n 2, 1, 0, 0, 0, 0), (10, .invokevirtual 57, 3, 0, 32, 1, 112), (13, .ifCond .eq 19, 3, 0, 32, 0, 0), (16, .aload_n 0, 1, 0, 0, 0, 0), (17, .getfield 49, 3, 0, 1, 0, 1), (20, .aload_n 0, 1, 0, 0, 0, 0), (21, .getfield 22, 3, 0, 1, 5, 1), (24, .iload_n 1, 1, 0, 0, 0, 0), (25, .iaload, 1, 0, 0, 0, 0), (26, .invokevirtual 95, 3, 0, 8, 1, 712), (29, .ifCond .ne 5, 3, 0, 34, 0, 0), (32, .iconst 0, 1, 0, 0, 0, 0), (33, .ireturn, 1, 1, 1, 0, 0), (34, .aload_n 0, 1, 0, 0, 0, 0), (35, .getfield 49, 3, 0, 1, 0, 1), (38, .getfield 98, 3, 0, 7, 1, 3), (41, .aload_n 0, 1, 0, 0, 0, 0), (42, .getfield 22, 3, 0, 1, 5, 1), (45, .iload_n 1, 1, 0, 0, 0, 0), (46, .iaload, 1, 0, 0, 0, 0), (47, .iaload, 1, 0, 0, 0, 0), (48, .aload_n 0, 1, 0, 0, 0, 0), (49, .getfield 22, 3, 0, 1, 5, 1), (52, .iload_n 2, 1, 0, 0, 0, 0), (53, .iaload, 1, 0, 0, 0, 0), (54, .if_icmp .ne 31, 3, 0, 85, 0, 0), (57, .aload_n 0, 1, 0, 0, 0, 0), (58, .iconst (-1), 1, 0, 0, 0, 0), (59, .aload_n 0, 1, 0, 0, 0, 0), (60, .getfield 49, 3, 0, 1, 0, 1), (63, .getfield 99, 3, 0, 7, 2, 3), (66, .aload_n 0, 1, 0, 0, 0, 0), (67, .getfield 22, 3, 0, 1, 5, 1), (70, .iload_n 1, 1, 0, 0, 0, 0), (71, .iaload, 1, 0, 0, 0, 0), (72, .iaload, 1, 0, 0, 0, 0), (73, .iload_n 1, 1, 0, 0, 0, 0), (74, .iload_n 2, 1, 0, 0, 0, 0), (75, .invokevirtual 81, 3, 0, 43, 4, 112), (78, .ifCond .eq 7, 3, 0, 85, 0, 0), (81, .iconst 1, 1, 0, 0, 0, 0), (82, .goto 4, 3, 0, 86, 0, 0), (85, .iconst 0, 1, 0, 0, 0, 0), (86, .ireturn, 1, 1, 1, 0, 0)]
def am_m39 : am_M := (yX1_application, cX1_application, 3, (some .boolean), am_r39)
def am_r40 : List am_I := [(0, .aload_n 0, 1, 0, 0, 0, 0), (1, .iload_n 1, 1, 0, 0, 0, 0), (2, .invokevirtual 78, 3, 0, 31, 1, 112), (5, .ifCond .eq 60, 3, 0, 65, 0, 0), (8, .aload_n 0, 1, 0, 0, 0, 0), (9, .iload_n 2, 1, 0, 0, 0, 0), (10, .invokevirtual 57, 3, 0, 32, 1, 112), (13, .ifCond .eq 52, 3, 0, 65, 0, 0), (16, .aload_n 0, 1, 0, 0, 0, 0), (17, .iload_n 2, 1, 0, 0, 0, 0), (18, .aload_n 0, 1, 0, 0, 0, 0), (19, .getfield 9, 3, 0, 1, 2, 1), (22, .iload_n 1, 1, 0, 0, 0, 0), (23, .iaload, 1, 0, 0, 0, 0), (24, .invokevirtual 100, 3, 0, 46, 2, 112), (27, .ifCond .eq 38, 3, 0, 65, 0, 0), (30, .aload_n 0, 1, 0, 0, 0, 0), (31, .bipush (-2), 2, 0, 0, 0, 0), (33, .aload_n 0, 1, 0, 0, 0, 0), (34, .getfield 49, 3, 0, 1, 0, 1), (37, .iconst 2, 1, 0, 0, 0, 0), (38, .aload_n 0, 1, 0, 0, 0, 0), (39, .getfield 9, 3, 0, 1, 2, 1), (42, .iload_n 1, 1, 0, 0, 0, 0), (43, .iaload, 1, 0, 0, 0, 0), (44, .aload_n 0, 1, 0, 0, 0, 0), (45, .getfield 22, 3, 0, 1, 5, 1), (48, .iload_n 2, 1, 0, 0, 0, 0), (49, .iaload, 1, 0, 0, 0, 0), (50, .invokevirtual 64, 3, 0, 3, 3, 712), (53, .iload_n 2, 1, 0, 0, 0, 0), (54, .iconst (-1), 1, 0, 0, 0, 0), (55, .invokevirtual 81, 3, 0, 43, 4, 112), (58, .ifCond .eq 7, 3, 0, 65, 0, 0), (61, .iconst 1, 1, 0, 0, 0, 0), (62, .goto 4, 3, 0, 66, 0, 0), (65, .iconst 0, 1, 0, 0, 0, 0), (66, .ireturn, 1, 1, 1, 0, 0)]
def am_m40 : am_M := (yX1_abstraction, cX1_abstraction, 3, (some .boolean), am_r40)
def am_r41 : List am_I := [(0, .iload_n 1, 1, 0, 0, 0, 0), (1, .ifCond .lt 41, 3, 0, 42, 0, 0), (4, .iload_n 1, 1, 0, 0, 0, 0), (5, .bipush 119, 2, 0, 0, 0, 0), (7, .if_icmp .gt 35, 3, 0, 42, 0, 0), (10, .aload_n 0, 1, 0, 0, 0, 0), (11, .iload_n 2, 1, 0, 0, 0, 0), (12, .invokevirtual 78, 3, 0, 31, 1, 112), (15, .ifCond .eq 27, 3, 0, 42, 0, 0), (18, .aload_n 0, 1, 0, 0, 0, 0), (19, .iconst 4, 1, 0, 0, 0, 0), (20, .iload_n 1, 1, 0, 0, 0, 0), (21, .imul, 1, 0, 0, 0, 0), (22, .iconst 0, 1, 0, 0, 0, 0), (23, .iadd, 1, 0, 0, 0, 0), (24, .aload_n 0, 1, 0, 0, 0, 0), (25, .getfield 9, 3, 0, 1, 2, 1), (28, .iload_n 2, 1, 0, 0, 0, 0), (29, .iaload, 1, 0, 0, 0, 0), (30, .iconst (-1), 1, 0, 0, 0, 0), (31, .iconst (-1), 1, 0, 0, 0, 0), (32, .invokevirtual 81, 3, 0, 43, 4, 112), (35, .ifCond .eq 7, 3, 0, 42, 0, 0), (38, .iconst 1, 1, 0, 0, 0, 0), (39, .goto 4, 3, 0, 43, 0, 0), (42, .iconst 0, 1, 0, 0, 0, 0), (43, .ireturn, 1, 1, 1, 0, 0)]
def am_m41 : am_M := (yX1_boundVariable, cX1_boundVariable, 3, (some .boolean), am_r41)
def am_r42 : List am_I := [(0, .iload_n 1, 1, 0, 0, 0, 0), (1, .ifCond .lt 13, 3, 0, 14, 0, 0), (4, .aload_n 0, 1, 0, 0, 0, 0), (5, .getfield 15, 3, 0, 1, 3, 0), (8, .sipush 8000, 3, 0, 0, 0, 0), (11, .if_icmp .lt 5, 3, 0, 16, 0, 0), (14, .iconst 0, 1, 0, 0, 0, 0), (15, .ireturn, 1, 1, 1, 0, 0), (16, .aload_n 0, 1, 0, 0, 0, 0), (17, .getfield 15, 3, 0, 1, 3, 0), (20, .aload_n 0, 1, 0, 0, 0, 0), (21, .getfield 9, 3, 0, 1, 2, 1), (24, .arraylength, 1, 0, 0, 0, 0), (25, .if_icmp .ne 14, 3, 0, 39, 0, 0), (28, .aload_n 0, 1, 0, 0, 0, 0), (29, .aload_n 0, 1, 0, 0, 0, 0), (30, .getfield 9, 3, 0, 1, 2, 1), (33, .invokestatic 103, 3, 0, 118, 1, 24), (36, .putfield 9, 3, 0, 1, 2, 1), (39, .aload_n 0, 1, 0, 0, 0, 0), (40, .getfield 9, 3, 0, 1, 2, 1), (43, .aload_n 0, 1, 0, 0, 0, 0), (44, .getfield 15, 3, 0, 1, 3, 0), (47, .iload_n 1, 1, 0, 0, 0, 0), (48, .iastore, 1, 0, 0, 0, 0), (49, .aload_n 0, 1, 0, 0, 0, 0), (50, .dup, 1, 0, 0, 0, 0), (51, .getfield 15, 3, 0, 1, 3, 0), (54, .iconst 1, 1, 0, 0, 0, 0), (55, .iadd, 1, 0, 0, 0, 0), (56, .putfield 15, 3, 0, 1, 3, 0), (59, .iconst 1, 1, 0, 0, 0, 0), (60, .ireturn, 1, 1, 1, 0, 0)]
def am_m42 : am_M := (yX1_addType, cX1_addType, 2, (some .boolean), am_r42)
def am_r43 : List am_I := [(0, .iconst 1, 1, 0, 0, 0, 0), (1, .aload_n 0, 1, 0, 0, 0, 0), (2, .getfield 31, 3, 0, 1, 8, 1), (5, .iload_n 3, 1, 0, 0, 0, 0), (6, .invokestatic 107, 3, 0, 119, 2, 14), (9, .iadd, 1, 0, 0, 0, 0), (10, .aload_n 0, 1, 0, 0, 0, 0), (11, .getfield 31, 3, 0, 1, 8, 1), (14, .iload 4, 2, 0, 0, 0, 0), (16, .invokestatic 107, 3, 0, 119, 2, 14), (19, .iadd, 1, 0, 0, 0, 0), (20, .istore 5, 2, 0, 0, 0, 0), (22, .iconst 1, 1, 0, 0, 0, 0), (23, .aload_n 0, 1, 0, 0, 0, 0), (24, .getfield 34, 3, 0, 1, 9, 1), (27, .iload_n 3, 1, 0, 0, 0, 0), (28, .invokestatic 107, 3, 0, 119, 2, 14), (31, .aload_n 0, 1, 0, 0, 0, 0), (32, .getfield 34, 3, 0, 1, 9, 1), (35, .iload 4, 2, 0, 0, 0, 0), (37, .invokestatic 107, 3, 0, 119, 2, 14), (40, .invokestatic 111, 3, 0, 0, 0, 5), (43, .iadd, 1, 0, 0, 0, 0), (44, .istore 6, 2, 0, 0, 0, 0), (46, .iload_n 2, 1, 0, 0, 0, 0), (47, .ifCond .lt 28, 3, 0, 75, 0, 0), (50, .aload_n 0, 1, 0, 0, 0, 0), (51, .getfield 40, 3, 0, 1, 11, 0), (54, .sipush 16000, 3, 0, 0, 0, 0), (57, .if_icmp .ge 18, 3, 0, 75, 0, 0), (60, .iload 5, 2, 0, 0, 0, 0), (62, .sipush 4000, 3, 0, 0, 0, 0), (65, .if_icmp .gt 10, 3, 0, 75, 0, 0), (68, .iload 6, 2, 0, 0, 0, 0), (70, .bipush 120, 2, 0, 0, 0, 0), (72, .if_icmp .le 5, 3, 0, 77, 0, 0), (75, .iconst 0, 1, 0, 0, 0, 0), (76, .ireturn, 1, 1, 1, 0, 0), (77, .aload_n 0, 1, 0, 0, 0, 0), (78, .getfield 40, 3, 0, 1, 11, 0), (81, .aload_n 0, 1, 0, 0, 0, 0), (82, .getfield 19, 3, 0, 1, 4, 1), (85, .arraylength, 1, 0, 0, 0, 0), (86, .if_icmp .ne 7, 3, 0, 93, 0, 0), (89, .aload_n 0, 1, 0, 0, 0, 0), (90, .invokevirtual 117, 3, 0, 44, 0, 102), (93, .aload_n 0, 1, 129, 0, 0, 0), (94, .getfield 19, 3, 0, 1, 4, 1), (97, .aload_n 0, 1, 0, 0, 0, 0), (98, .getfield 40, 3, 0, 1, 11, 0), (101, .iload_n 1, 1, 0, 0, 0, 0), (102, .iastore, 1, 0, 0, 0, 0), (103, .aload_n 0, 1, 0, 0, 0, 0), (104, .getfield 22, 3, 0, 1, 5, 1), (107, .aload_n 0, 1, 0, 0, 0, 0), (108, .getfield 40, 3, 0, 1, 11, 0), (111, .iload_n 2, 1, 0, 0, 0, 0), (112, .iastore, 1, 0, 0, 0, 0), (113, .aload_n 0, 1, 0, 0, 0, 0), (114, .getfield 25, 3, 0, 1, 6, 1), (117, .aload_n 0, 1, 0, 0, 0, 0), (118, .getfield 40, 3, 0, 1, 11, 0), (121, .iload_n 3, 1, 0, 0, 0, 0), (122, .iastore, 1, 0, 0, 0, 0), (123, .aload_n 0, 1, 0, 0, 0, 0), (124, .getfield 28, 3, 0, 1, 7, 1), (127, .aload_n 0, 1, 0, 0, 0, 0), (128, .getfield 40, 3, 0, 1, 11, 0), (131, .iload 4, 2, 0, 0, 0, 0), (133, .iastore, 1, 0, 0, 0, 0), (134, .aload_n 0, 1, 0, 0, 0, 0), (135, .getfield 31, 3, 0, 1, 8, 1), (138, .aload_n 0, 1, 0, 0, 0, 0), (139, .getfield 40, 3, 0, 1, 11, 0), (142, .iload 5, 2, 0, 0, 0, 0), (144, .iastore, 1, 0, 0, 0, 0), (145, .aload_n 0, 1, 0, 0, 0, 0), (146, .getfield 34, 3, 0, 1, 9, 1), (149, .aload_n 0, 1, 0, 0, 0, 0), (150, .getfield 40, 3, 0, 1, 11, 0), (153, .iload 6, 2, 0, 0, 0, 0), (155, .iastore, 1, 0, 0, 0, 0), (156, .aload_n 0, 1, 0, 0, 0, 0), (157, .getfield 37, 3, 0, 1, 10, 1), (160, .aload_n 0, 1, 0, 0, 0, 0), (161, .getfield 40, 3, 0, 1, 11, 0), (164, .aload_n 0, 1, 0, 0, 0, 0), (165, .iload_n 1, 1, 0, 0, 0, 0), (166, .iload_n 3, 1, 0, 0, 0, 0), (167, .iload 4, 2, 0, 0, 0, 0), (169, .invokevirtual 120, 3, 0, 45, 3, 112), (172, .iastore, 1, 0, 0, 0, 0), (173, .aload_n 0, 1, 0, 0, 0, 0), (174, .dup, 1, 0, 0, 0, 0), (175, .getfield 40, 3, 0, 1, 11, 0), (178, .iconst 1, 1, 0, 0, 0, 0), (179, .iadd, 1, 0, 0, 0, 0), (180, .putfield 40, 3, 0, 1, 11, 0), (183, .iconst 1, 1, 0, 0, 0, 0), (184, .ireturn, 1, 1, 1, 0, 0)]
def am_m43 : am_M := (yX1_addTerm, cX1_addTerm, 7, (some .boolean), am_r43)
def am_r44 : List am_I := [(0, .aload_n 0, 1, 0, 0, 0, 0), (1, .aload_n 0, 1, 0, 0, 0, 0), (2, .getfield 19, 3, 0, 1, 4, 1), (5, .invokestatic 103, 3, 0, 118, 1, 24), (8, .putfield 19, 3, 0, 1, 4, 1), (11, .aload_n 0, 1, 0, 0, 0, 0), (12, .aload_n 0, 1, 0, 0, 0, 0), (13, .getfield 22, 3, 0, 1, 5, 1), (16, .invokestatic 103, 3, 0, 118, 1, 24), (19, .putfield 22, 3, 0, 1, 5, 1), (22, .aload_n 0, 1, 0, 0, 0, 0), (23, .aload_n 0, 1, 0, 0, 0, 0), (24, .getfield 25, 3, 0, 1, 6, 1), (27, .invokestatic 103, 3, 0, 118, 1, 24), (30, .putfield 25, 3, 0, 1, 6, 1), (33, .aload_n 0, 1, 0, 0, 0, 0), (34, .aload_n 0, 1, 0, 0, 0, 0), (35, .getfield 28, 3, 0, 1, 7, 1), (38, .invokestatic 103, 3, 0, 118, 1, 24), (41, .putfield 28, 3, 0, 1, 7, 1), (44, .aload_n 0, 1, 0, 0, 0, 0), (45, .aload_n 0, 1, 0, 0, 0, 0), (46, .getfield 31, 3, 0, 1, 8, 1), (49, .invokestatic 103, 3, 0, 118, 1, 24), (52, .putfield 31, 3, 0, 1, 8, 1), (55, .aload_n 0, 1, 0, 0, 0, 0), (56, .aload_n 0, 1, 0, 0, 0, 0), (57, .getfield 34, 3, 0, 1, 9, 1), (60, .invokestatic 103, 3, 0, 118, 1, 24), (63, .putfield 34, 3, 0, 1, 9, 1), (66, .aload_n 0, 1, 0, 0, 0, 0), (67, .aload_n 0, 1, 0, 0, 0, 0), (68, .getfield 37, 3, 0, 1, 10, 1), (71, .invokestatic 103, 3, 0, 118, 1, 24), (74, .putfield 37, 3, 0, 1, 10, 1), (77, .return_, 1, 1, 0, 0, 0)]
def am_m44 : am_M := (yX1_growTerms, cX1_growTerms, 1, none, am_r44)
def am_r45 : List am_I := [(0, .iload_n 1, 1, 0, 0, 0, 0), (1, .iconst (-1), 1, 0, 0, 0, 0), (2, .if_icmp .ne 19, 3, 0, 21, 0, 0), (5, .aload_n 0, 1, 0, 0, 0, 0), (6, .getfield 37, 3, 0, 1, 10, 1), (9, .iload_n 2, 1, 0, 0, 0, 0), (10, .iaload, 1, 0, 0, 0, 0), (11, .aload_n 0, 1, 0, 0, 0, 0), (12, .getfield 37, 3, 0, 1, 10, 1), (15, .iload_n 3, 1, 0, 0, 0, 0), (16, .iaload, 1, 0, 0, 0, 0), (17, .invokestatic 111, 3, 0, 0, 0, 5), (20, .ireturn, 1, 1, 0, 0, 0), (21, .iload_n 1, 1, 0, 0, 0, 0), (22, .bipush (-2), 2, 0, 0, 0, 0), (24, .if_icmp .ne 16, 3, 0, 40, 0, 0), (27, .iconst 0, 1, 0, 0, 0, 0), (28, .aload_n 0, 1, 0, 0, 0, 0), (29, .getfield 37, 3, 0, 1, 10, 1), (32, .iload_n 2, 1, 0, 0, 0, 0), (33, .iaload, 1, 0, 0, 0, 0), (34, .iconst 1, 1, 0, 0, 0, 0), (35, .isub, 1, 0, 0, 0, 0), (36, .invokestatic 111, 3, 0, 0, 0, 5), (39, .ireturn, 1, 1, 0, 0, 0), (40, .iload_n 1, 1, 0, 0, 0, 0), (41, .iconst 4, 1, 0, 0, 0, 0), (42, .irem, 1, 0, 0, 0, 0), (43, .ifCond .ne 11, 3, 0, 54, 0, 0), (46, .iload_n 1, 1, 0, 0, 0, 0), (47, .iconst 4, 1, 0, 0, 0, 0), (48, .idiv, 1, 0, 0, 0, 0), (49, .iconst 1, 1, 0, 0, 0, 0), (50, .iadd, 1, 0, 0, 0, 0), (51, .goto 4, 3, 0, 55, 0, 0), (54, .iconst 0, 1, 0, 0, 0, 0), (55, .ireturn, 1, 1, 0, 0, 0)]
def am_m45 : am_M := (yX1_looseOf, cX1_looseOf, 4, (some .int), am_r45)
def am_r46 : List am_I := [(0, .iconst 1, 1, 0, 0, 0, 0), (1, .istore_n 3, 1, 0, 0, 0, 0), (2, .aload_n 0, 1, 0, 0, 0, 0), (3, .getfield 43, 3, 0, 1, 12, 1), (6, .iconst 0, 1, 0, 0, 0, 0), (7, .iload_n 1, 1, 0, 0, 0, 0), (8, .iastore, 1, 0, 0, 0, 0), (9, .aload_n 0, 1, 0, 0, 0, 0), (10, .getfield 46, 3, 0, 1, 13, 1), (13, .iconst 0, 1, 0, 0, 0, 0), (14, .iconst 0, 1, 0, 0, 0, 0), (15, .iastore, 1, 0, 0, 0, 0), (16, .iconst 0, 1, 0, 0, 0, 0), (17, .istore 4, 2, 0, 0, 0, 0), (19, .iload_n 3, 1, 31, 0, 0, 0), (20, .ifCond .le 195, 3, 0, 215, 0, 0), (23, .iload 4, 2, 0, 0, 0, 0), (25, .sipush 4000, 3, 0, 0, 0, 0), (28, .if_icmp .ge 187, 3, 0, 215, 0, 0), (31, .iinc 3 (-1), 3, 0, 0, 0, 0), (34, .aload_n 0, 1, 0, 0, 0, 0), (35, .getfield 43, 3, 0, 1, 12, 1), (38, .iload_n 3, 1, 0, 0, 0, 0), (39, .iaload, 1, 0, 0, 0, 0), (40, .istore 5, 2, 0, 0, 0, 0), (42, .aload_n 0, 1, 0, 0, 0, 0), (43, .getfield 46, 3, 0, 1, 13, 1), (46, .iload_n 3, 1, 0, 0, 0, 0), (47, .iaload, 1, 0, 0, 0, 0), (48, .istore 6, 2, 0, 0, 0, 0), (50, .aload_n 0, 1, 0, 0, 0, 0), (51, .getfield 19, 3, 0, 1, 4, 1), (54, .iload 5, 2, 0, 0, 0, 0), (56, .iaload, 1, 0, 0, 0, 0), (57, .iconst 4, 1, 0, 0, 0, 0), (58, .iload 6, 2, 0, 0, 0, 0), (60, .imul, 1, 0, 0, 0, 0), (61, .iconst 0, 1, 0, 0, 0, 0), (62, .iadd, 1, 0, 0, 0, 0), (63, .if_icmp .ne 16, 3, 0, 79, 0, 0), (66, .aload_n 0, 1, 0, 0, 0, 0), (67, .getfield 22, 3, 0, 1, 5, 1), (70, .iload 5, 2, 0, 0, 0, 0), (72, .iaload, 1, 0, 0, 0, 0), (73, .iload_n 2, 1, 0, 0, 0, 0), (74, .if_icmp .eq 5, 3, 0, 79, 0, 0), (77, .iconst 0, 1, 0, 0, 0, 0), (78, .ireturn, 1, 1, 1, 0, 0), (79, .aload_n 0, 1, 0, 0, 0, 0), (80, .getfield 37, 3, 0, 1, 10, 1), (83, .iload 5, 2, 0, 0, 0, 0), (85, .iaload, 1, 0, 0, 0, 0), (86, .iload 6, 2, 0, 0, 0, 0), (88, .if_icmp .le 7, 3, 0, 95, 0, 0), (91, .iconst 1, 1, 0, 0, 0, 0), (92, .goto 4, 3, 0, 96, 0, 0), (95, .iconst 0, 1, 0, 0, 0, 0), (96, .istore 7, 2, 127, 0, 0, 0), (98, .iload 7, 2, 0, 0, 0, 0), (100, .ifCond .eq 66, 3, 0, 166, 0, 0), (103, .aload_n 0, 1, 0, 0, 0, 0), (104, .getfield 19, 3, 0, 1, 4, 1), (107, .iload 5, 2, 0, 0, 0, 0), (109, .iaload, 1, 0, 0, 0, 0), (110, .iconst (-1), 1, 0, 0, 0, 0), (111, .if_icmp .ne 55, 3, 0, 166, 0, 0), (114, .aload_n 0, 1, 0, 0, 0, 0), (115, .getfield 43, 3, 0, 1, 12, 1), (118, .iload_n 3, 1, 0, 0, 0, 0), (119, .aload_n 0, 1, 0, 0, 0, 0), (120, .getfield 28, 3, 0, 1, 7, 1), (123, .iload 5, 2, 0, 0, 0, 0), (125, .iaload, 1, 0, 0, 0, 0), (126, .iastore, 1, 0, 0, 0, 0), (127, .aload_n 0, 1, 0, 0, 0, 0), (128, .getfield 46, 3, 0, 1, 13, 1), (131, .iload_n 3, 1, 0, 0, 0, 0), (132, .iload 6, 2, 0, 0, 0, 0), (134, .iastore, 1, 0, 0, 0, 0), (135, .aload_n 0, 1, 0, 0, 0, 0), (136, .getfield 43, 3, 0, 1, 12, 1), (139, .iload_n 3, 1, 0, 0, 0, 0), (140, .iconst 1, 1, 0, 0, 0, 0), (141, .iadd, 1, 0, 0, 0, 0), (142, .aload_n 0, 1, 0, 0, 0, 0), (143, .getfield 25, 3, 0, 1, 6, 1), (146, .iload 5, 2, 0, 0, 0, 0), (148, .iaload, 1, 0, 0, 0, 0), (149, .iastore, 1, 0, 0, 0, 0), (150, .aload_n 0, 1, 0, 0, 0, 0), (151, .getfield 46, 3, 0, 1, 13, 1), (154, .iload_n 3, 1, 0, 0, 0, 0), (155, .iconst 1, 1, 0, 0, 0, 0), (156, .iadd, 1, 0, 0, 0, 0), (157, .iload 6, 2, 0, 0, 0, 0), (159, .iastore, 1, 0, 0, 0, 0), (160, .iinc 3 2, 3, 0, 0, 0, 0), (163, .goto 46, 3, 0, 209, 0, 0), (166, .iload 7, 2, 0, 0, 0, 0), (168, .ifCond .eq 41, 3, 0, 209, 0, 0), (171, .aload_n 0, 1, 0, 0, 0, 0), (172, .getfield 19, 3, 0, 1, 4, 1), (175, .iload 5, 2, 0, 0, 0, 0), (177, .iaload, 1, 0, 0, 0, 0), (178, .bipush (-2), 2, 0, 0, 0, 0), (180, .if_icmp .ne 29, 3, 0, 209, 0, 0), (183, .aload_n 0, 1, 0, 0, 0, 0), (184, .getfield 43, 3, 0, 1, 12, 1), (187, .iload_n 3, 1, 0, 0, 0, 0), (188, .aload_n 0, 1, 0, 0, 0, 0), (189, .getfield 25, 3, 0, 1, 6, 1), (192, .iload 5, 2, 0, 0, 0, 0), (194, .iaload, 1, 0, 0, 0, 0), (195, .iastore, 1, 0, 0, 0, 0), (196, .aload_n 0, 1, 0, 0, 0, 0), (197, .getfield 46, 3, 0, 1, 13, 1), (200, .iload_n 3, 1, 0, 0, 0, 0), (201, .iload 6, 2, 0, 0, 0, 0), (203, .iconst 1, 1, 0, 0, 0, 0), (204, .iadd, 1, 0, 0, 0, 0), (205, .iastore, 1, 0, 0, 0, 0), (206, .iinc 3 1, 3, 0, 0, 0, 0), (209, .iinc 4 1, 3, 0, 0, 0, 0), (212, .goto (-193), 3, 0, 19, 0, 0), (215, .iconst 1, 1, 0, 0, 0, 0), (216, .ireturn, 1, 1, 1, 0, 0)]
def am_m46 : am_M := (yX1_bindsType, cX1_bindsType, 8, (some .boolean), am_r46)
def am_r47 : List am_I := [(0, .iconst 1, 1, 0, 0, 0, 0), (1, .istore_n 3, 1, 0, 0, 0, 0), (2, .aload_n 0, 1, 0, 0, 0, 0), (3, .getfield 43, 3, 0, 1, 12, 1), (6, .iconst 0, 1, 0, 0, 0, 0), (7, .iload_n 2, 1, 0, 0, 0, 0), (8, .iastore, 1, 0, 0, 0, 0), (9, .iconst 0, 1, 0, 0, 0, 0), (10, .istore 4, 2, 0, 0, 0, 0), (12, .iload_n 3, 1, 29, 0, 0, 0), (13, .ifCond .le 119, 3, 0, 132, 0, 0), (16, .iload 4, 2, 0, 0, 0, 0), (18, .sipush 4000, 3, 0, 0, 0, 0), (21, .if_icmp .ge 111, 3, 0, 132, 0, 0), (24, .aload_n 1, 1, 0, 0, 0, 0), (25, .getfield 123, 3, 0, 3, 6, 2), (28, .ifCond .ne 104, 3, 0, 132, 0, 0), (31, .iinc 3 (-1), 3, 0, 0, 0, 0), (34, .aload_n 0, 1, 0, 0, 0, 0), (35, .getfield 43, 3, 0, 1, 12, 1), (38, .iload_n 3, 1, 0, 0, 0, 0), (39, .iaload, 1, 0, 0, 0, 0), (40, .istore 5, 2, 0, 0, 0, 0), (42, .aload_n 1, 1, 0, 0, 0, 0), (43, .aload_n 0, 1, 0, 0, 0, 0), (44, .getfield 19, 3, 0, 1, 4, 1), (47, .iload 5, 2, 0, 0, 0, 0), (49, .iaload, 1, 0, 0, 0, 0), (50, .aload_n 0, 1, 0, 0, 0, 0), (51, .getfield 22, 3, 0, 1, 5, 1), (54, .iload 5, 2, 0, 0, 0, 0), (56, .iaload, 1, 0, 0, 0, 0), (57, .invokevirtual 129, 3, 0, 51, 2, 302), (60, .aload_n 0, 1, 0, 0, 0, 0), (61, .getfield 19, 3, 0, 1, 4, 1), (64, .iload 5, 2, 0, 0, 0, 0), (66, .iaload, 1, 0, 0, 0, 0), (67, .iconst (-1), 1, 0, 0, 0, 0), (68, .if_icmp .ne 19, 3, 0, 87, 0, 0), (71, .aload_n 0, 1, 0, 0, 0, 0), (72, .getfield 43, 3, 0, 1, 12, 1), (75, .iload_n 3, 1, 0, 0, 0, 0), (76, .aload_n 0, 1, 0, 0, 0, 0), (77, .getfield 28, 3, 0, 1, 7, 1), (80, .iload 5, 2, 0, 0, 0, 0), (82, .iaload, 1, 0, 0, 0, 0), (83, .iastore, 1, 0, 0, 0, 0), (84, .iinc 3 1, 3, 0, 0, 0, 0), (87, .aload_n 0, 1, 0, 0, 0, 0), (88, .getfield 19, 3, 0, 1, 4, 1), (91, .iload 5, 2, 0, 0, 0, 0), (93, .iaload, 1, 0, 0, 0, 0), (94, .iconst (-1), 1, 0, 0, 0, 0), (95, .if_icmp .eq 15, 3, 0, 110, 0, 0), (98, .aload_n 0, 1, 0, 0, 0, 0), (99, .getfield 19, 3, 0, 1, 4, 1), (102, .iload 5, 2, 0, 0, 0, 0), (104, .iaload, 1, 0, 0, 0, 0), (105, .bipush (-2), 2, 0, 0, 0, 0), (107, .if_icmp .ne 19, 3, 0, 126, 0, 0), (110, .aload_n 0, 1, 0, 0, 0, 0), (111, .getfield 43, 3, 0, 1, 12, 1), (114, .iload_n 3, 1, 0, 0, 0, 0), (115, .aload_n 0, 1, 0, 0, 0, 0), (116, .getfield 25, 3, 0, 1, 6, 1), (119, .iload 5, 2, 0, 0, 0, 0), (121, .iaload, 1, 0, 0, 0, 0), (122, .iastore, 1, 0, 0, 0, 0), (123, .iinc 3 1, 3, 0, 0, 0, 0), (126, .iinc 4 1, 3, 0, 0, 0, 0), (129, .goto (-117), 3, 0, 12, 0, 0), (132, .return_, 1, 1, 0, 0, 0)]
def am_m47 : am_M := (yX1_writeTo, cX1_writeTo, 6, none, am_r47)
def am_r48 : List am_I := [(0, .aload_n 0, 1, 0, 0, 0, 0), (1, .invokespecial 1, 3, 0, 0, 0, 0), (4, .aload_n 0, 1, 0, 0, 0, 0), (5, .iload_n 1, 1, 0, 0, 0, 0), (6, .putfield 7, 3, 0, 2, 0, 6), (9, .aload_n 0, 1, 0, 0, 0, 0), (10, .iload_n 2, 1, 0, 0, 0, 0), (11, .putfield 13, 3, 0, 2, 1, 6), (14, .aload_n 0, 1, 0, 0, 0, 0), (15, .iload_n 3, 1, 0, 0, 0, 0), (16, .putfield 16, 3, 0, 2, 2, 6), (19, .aload_n 0, 1, 0, 0, 0, 0), (20, .iload 4, 2, 0, 0, 0, 0), (22, .putfield 19, 3, 0, 2, 3, 6), (25, .return_, 1, 1, 0, 0, 0)]
def am_m48 : am_M := (yX2_init, cX2_init, 5, none, am_r48)
def am_r49 : List am_I := [(0, .aload_n 0, 1, 0, 0, 0, 0), (1, .invokespecial 3, 3, 0, 0, 0, 0), (4, .aload_n 0, 1, 0, 0, 0, 0), (5, .bipush 64, 2, 0, 0, 0, 0), (7, .newarray .int, 2, 0, 0, 0, 0), (9, .putfield 9, 3, 0, 3, 1, 1), (12, .aload_n 0, 1, 0, 0, 0, 0), (13, .bipush 64, 2, 0, 0, 0, 0), (15, .newarray .int, 2, 0, 0, 0, 0), (17, .putfield 15, 3, 0, 3, 2, 1), (20, .aload_n 0, 1, 0, 0, 0, 0), (21, .iconst 0, 1, 0, 0, 0, 0), (22, .putfield 18, 3, 0, 3, 3, 0), (25, .aload_n 0, 1, 0, 0, 0, 0), (26, .bipush 64, 2, 0, 0, 0, 0), (28, .newarray .int, 2, 0, 0, 0, 0), (30, .putfield 22, 3, 0, 3, 4, 1), (33, .aload_n 0, 1, 0, 0, 0, 0), (34, .iconst 0, 1, 0, 0, 0, 0), (35, .putfield 25, 3, 0, 3, 5, 0), (38, .aload_n 0, 1, 0, 0, 0, 0), (39, .iconst 0, 1, 0, 0, 0, 0), (40, .putfield 28, 3, 0, 3, 6, 2), (43, .aload_n 0, 1, 0, 0, 0, 0), (44, .bipush 121, 2, 0, 0, 0, 0), (46, .newarray .int, 2, 0, 0, 0, 0), (48, .putfield 32, 3, 0, 3, 7, 7), (51, .aload_n 0, 1, 0, 0, 0, 0), (52, .aload_n 1, 1, 0, 0, 0, 0), (53, .putfield 35, 3, 0, 3, 0, 7), (56, .return_, 1, 1, 0, 0, 0)]
def am_m49 : am_M := (yX3_init, cX3_init, 2, none, am_r49)
def am_r50 : List am_I := [(0, .aload_n 0, 1, 0, 0, 0, 0), (1, .iload_n 1, 1, 0, 0, 0, 0), (2, .putfield 25, 3, 0, 3, 5, 0), (5, .aload_n 0, 1, 0, 0, 0, 0), (6, .aload_n 0, 1, 0, 0, 0, 0), (7, .getfield 22, 3, 0, 3, 4, 1), (10, .iload_n 1, 1, 0, 0, 0, 0), (11, .iaload, 1, 0, 0, 0, 0), (12, .putfield 18, 3, 0, 3, 3, 0), (15, .aload_n 0, 1, 0, 0, 0, 0), (16, .iconst 0, 1, 0, 0, 0, 0), (17, .putfield 28, 3, 0, 3, 6, 2), (20, .return_, 1, 1, 0, 0, 0)]
def am_m50 : am_M := (yX3_shorten, cX3_shorten, 2, none, am_r50)
def am_r51 : List am_I := [(0, .iload_n 2, 1, 0, 0, 0, 0), (1, .ifCond .lt 23, 3, 0, 24, 0, 0), (4, .aload_n 0, 1, 0, 0, 0, 0), (5, .getfield 18, 3, 0, 3, 3, 0), (8, .aload_n 0, 1, 0, 0, 0, 0), (9, .getfield 22, 3, 0, 3, 4, 1), (12, .aload_n 0, 1, 0, 0, 0, 0), (13, .getfield 25, 3, 0, 3, 5, 0), (16, .iaload, 1, 0, 0, 0, 0), (17, .isub, 1, 0, 0, 0, 0), (18, .sipush 4000, 3, 0, 0, 0, 0), (21, .if_icmp .lt 8, 3, 0, 29, 0, 0), (24, .aload_n 0, 1, 0, 0, 0, 0), (25, .iconst 1, 1, 0, 0, 0, 0), (26, .putfield 28, 3, 0, 3, 6, 2), (29, .aload_n 0, 1, 9, 0, 0, 0), (30, .getfield 28, 3, 0, 3, 6, 0), (33, .ifCond .eq 4, 3, 0, 37, 0, 0), (36, .return_, 1, 1, 0, 0, 0), (37, .aload_n 0, 1, 0, 0, 0, 0), (38, .getfield 18, 3, 0, 3, 3, 0), (41, .aload_n 0, 1, 0, 0, 0, 0), (42, .getfield 9, 3, 0, 3, 1, 1), (45, .arraylength, 1, 0, 0, 0, 0), (46, .if_icmp .ne 25, 3, 0, 71, 0, 0), (49, .aload_n 0, 1, 0, 0, 0, 0), (50, .aload_n 0, 1, 0, 0, 0, 0), (51, .getfield 9, 3, 0, 3, 1, 1), (54, .invokestatic 39, 3, 0, 118, 1, 24), (57, .putfield 9, 3, 0, 3, 1, 1), (60, .aload_n 0, 1, 0, 0, 0, 0), (61, .aload_n 0, 1, 0, 0, 0, 0), (62, .getfield 15, 3, 0, 3, 2, 1), (65, .invokestatic 39, 3, 0, 118, 1, 24), (68, .putfield 15, 3, 0, 3, 2, 1), (71, .aload_n 0, 1, 0, 0, 0, 0), (72, .getfield 9, 3, 0, 3, 1, 1), (75, .aload_n 0, 1, 0, 0, 0, 0), (76, .getfield 18, 3, 0, 3, 3, 0), (79, .iload_n 1, 1, 0, 0, 0, 0), (80, .iastore, 1, 0, 0, 0, 0), (81, .aload_n 0, 1, 0, 0, 0, 0), (82, .getfield 15, 3, 0, 3, 2, 1), (85, .aload_n 0, 1, 0, 0, 0, 0), (86, .getfield 18, 3, 0, 3, 3, 0), (89, .iload_n 2, 1, 0, 0, 0, 0), (90, .iastore, 1, 0, 0, 0, 0), (91, .aload_n 0, 1, 0, 0, 0, 0), (92, .dup, 1, 0, 0, 0, 0), (93, .getfield 18, 3, 0, 3, 3, 0), (96, .iconst 1, 1, 0, 0, 0, 0), (97, .iadd, 1, 0, 0, 0, 0), (98, .putfield 18, 3, 0, 3, 3, 0), (101, .return_, 1, 1, 0, 0, 0)]
def am_m51 : am_M := (yX3_write, cX3_write, 3, none, am_r51)
def am_r52 : List am_I := [(0, .aload_n 0, 1, 0, 0, 0, 0), (1, .getfield 35, 3, 0, 3, 0, 1), (4, .iconst 2, 1, 0, 0, 0, 0), (5, .iload_n 1, 1, 0, 0, 0, 0), (6, .iconst 1, 1, 0, 0, 0, 0), (7, .invokevirtual 43, 3, 0, 3, 3, 712), (10, .istore_n 2, 1, 0, 0, 0, 0), (11, .aload_n 0, 1, 0, 0, 0, 0), (12, .iconst (-1), 1, 0, 0, 0, 0), (13, .iconst 1, 1, 0, 0, 0, 0), (14, .invokevirtual 49, 3, 0, 51, 2, 302), (17, .aload_n 0, 1, 0, 0, 0, 0), (18, .iconst (-1), 1, 0, 0, 0, 0), (19, .iload_n 2, 1, 0, 0, 0, 0), (20, .invokevirtual 49, 3, 0, 51, 2, 302), (23, .aload_n 0, 1, 0, 0, 0, 0), (24, .iconst 2, 1, 0, 0, 0, 0), (25, .aload_n 0, 1, 0, 0, 0, 0), (26, .getfield 35, 3, 0, 3, 0, 1), (29, .iconst 2, 1, 0, 0, 0, 0), (30, .iload_n 1, 1, 0, 0, 0, 0), (31, .iload_n 2, 1, 0, 0, 0, 0), (32, .invokevirtual 43, 3, 0, 3, 3, 712), (35, .invokevirtual 49, 3, 0, 51, 2, 302), (38, .return_, 1, 1, 0, 0, 0)]
def am_m52 : am_M := (yX3_writeEquals, cX3_writeEquals, 3, none, am_r52)
def am_r53 : List am_I := [(0, .aload_n 0, 1, 0, 0, 0, 0), (1, .iconst (-1), 1, 0, 0, 0, 0), (2, .aload_n 0, 1, 0, 0, 0, 0), (3, .getfield 35, 3, 0, 3, 0, 1), (6, .iload_n 2, 1, 0, 0, 0, 0), (7, .invokevirtual 53, 3, 0, 9, 1, 712), (10, .invokevirtual 49, 3, 0, 51, 2, 302), (13, .aload_n 0, 1, 0, 0, 0, 0), (14, .iload_n 1, 1, 0, 0, 0, 0), (15, .iload_n 2, 1, 0, 0, 0, 0), (16, .invokevirtual 49, 3, 0, 51, 2, 302), (19, .return_, 1, 1, 0, 0, 0)]
def am_m53 : am_M := (yX3_writeApplied, cX3_writeApplied, 3, none, am_r53)
def am_r54 : List am_I := [(0, .iload_n 1, 1, 0, 0, 0, 0), (1, .istore_n 3, 1, 0, 0, 0, 0), (2, .iload_n 3, 1, 15, 0, 0, 0), (3, .iload_n 2, 1, 0, 0, 0, 0), (4, .if_icmp .ge 32, 3, 0, 36, 0, 0), (7, .aload_n 0, 1, 0, 0, 0, 0), (8, .getfield 28, 3, 0, 3, 6, 0), (11, .ifCond .ne 25, 3, 0, 36, 0, 0), (14, .aload_n 0, 1, 0, 0, 0, 0), (15, .aload_n 0, 1, 0, 0, 0, 0), (16, .getfield 9, 3, 0, 3, 1, 1), (19, .iload_n 3, 1, 0, 0, 0, 0), (20, .iaload, 1, 0, 0, 0, 0), (21, .aload_n 0, 1, 0, 0, 0, 0), (22, .getfield 15, 3, 0, 3, 2, 1), (25, .iload_n 3, 1, 0, 0, 0, 0), (26, .iaload, 1, 0, 0, 0, 0), (27, .invokevirtual 49, 3, 0, 51, 2, 302), (30, .iinc 3 1, 3, 0, 0, 0, 0), (33, .goto (-31), 3, 0, 2, 0, 0), (36, .return_, 1, 1, 0, 0, 0)]
def am_m54 : am_M := (yX3_copy, cX3_copy, 4, none, am_r54)
def am_r55 : List am_I := [(0, .iload_n 1, 1, 0, 0, 0, 0), (1, .istore_n 3, 1, 0, 0, 0, 0), (2, .iload_n 3, 1, 15, 0, 0, 0), (3, .iload_n 2, 1, 0, 0, 0, 0), (4, .if_icmp .ge 40, 3, 0, 44, 0, 0), (7, .aload_n 0, 1, 0, 0, 0, 0), (8, .getfield 28, 3, 0, 3, 6, 0), (11, .ifCond .ne 33, 3, 0, 44, 0, 0), (14, .aload_n 0, 1, 0, 0, 0, 0), (15, .aload_n 0, 1, 0, 0, 0, 0), (16, .getfield 9, 3, 0, 3, 1, 1), (19, .iload_n 3, 1, 0, 0, 0, 0), (20, .iaload, 1, 0, 0, 0, 0), (21, .aload_n 0, 1, 0, 0, 0, 0), (22, .getfield 35, 3, 0, 3, 0, 1), (25, .getfield 57, 3, 0, 7, 6, 3), (28, .aload_n 0, 1, 0, 0, 0, 0), (29, .getfield 15, 3, 0, 3, 2, 1), (32, .iload_n 3, 1, 0, 0, 0, 0), (33, .iaload, 1, 0, 0, 0, 0), (34, .iaload, 1, 0, 0, 0, 0), (35, .invokevirtual 49, 3, 0, 51, 2, 302), (38, .iinc 3 1, 3, 0, 0, 0, 0), (41, .goto (-39), 3, 0, 2, 0, 0), (44, .return_, 1, 1, 0, 0, 0)]
def am_m55 : am_M := (yX3_copyRetyped, cX3_copyRetyped, 4, none, am_r55)
def am_r56 : List am_I := [(0, .iconst 0, 1, 0, 0, 0, 0), (1, .istore 6, 2, 0, 0, 0, 0), (3, .iconst 0, 1, 0, 0, 0, 0), (4, .istore 7, 2, 0, 0, 0, 0), (6, .iload_n 1, 1, 0, 0, 0, 0), (7, .istore 8, 2, 0, 0, 0, 0), (9, .iload 8, 2, 511, 0, 0, 0), (11, .iload_n 2, 1, 0, 0, 0, 0), (12, .if_icmp .ge 153, 3, 0, 165, 0, 0), (15, .aload_n 0, 1, 0, 0, 0, 0), (16, .getfield 28, 3, 0, 3, 6, 0), (19, .ifCond .ne 146, 3, 0, 165, 0, 0), (22, .aload_n 0, 1, 0, 0, 0, 0), (23, .getfield 9, 3, 0, 3, 1, 1), (26, .iload 8, 2, 0, 0, 0, 0), (28, .iaload, 1, 0, 0, 0, 0), (29, .istore 9, 2, 0, 0, 0, 0), (31, .iconst 4, 1, 0, 0, 0, 0), (32, .iload 7, 2, 0, 0, 0, 0), (34, .imul, 1, 0, 0, 0, 0), (35, .iconst 0, 1, 0, 0, 0, 0), (36, .iadd, 1, 0, 0, 0, 0), (37, .istore 10, 2, 0, 0, 0, 0), (39, .iload_n 3, 1, 0, 0, 0, 0), (40, .ifCond .eq 33, 3, 0, 73, 0, 0), (43, .iload 9, 2, 0, 0, 0, 0), (45, .iload 4, 2, 0, 0, 0, 0), (47, .if_icmp .ne 26, 3, 0, 73, 0, 0), (50, .aload_n 0, 1, 0, 0, 0, 0), (51, .getfield 15, 3, 0, 3, 2, 1), (54, .iload 8, 2, 0, 0, 0, 0), (56, .iaload, 1, 0, 0, 0, 0), (57, .iload 5, 2, 0, 0, 0, 0), (59, .if_icmp .ne 14, 3, 0, 73, 0, 0), (62, .aload_n 0, 1, 0, 0, 0, 0), (63, .iload 10, 2, 0, 0, 0, 0), (65, .iload 5, 2, 0, 0, 0, 0), (67, .invokevirtual 49, 3, 0, 51, 2, 302), (70, .goto 38, 3, 0, 108, 0, 0), (73, .iload_n 3, 1, 0, 0, 0, 0), (74, .ifCond .ne 21, 3, 0, 95, 0, 0), (77, .iload 9, 2, 0, 0, 0, 0), (79, .iload 10, 2, 0, 0, 0, 0), (81, .if_icmp .ne 14, 3, 0, 95, 0, 0), (84, .aload_n 0, 1, 0, 0, 0, 0), (85, .iload 4, 2, 0, 0, 0, 0), (87, .iload 5, 2, 0, 0, 0, 0), (89, .invokevirtual 49, 3, 0, 51, 2, 302), (92, .goto 16, 3, 0, 108, 0, 0), (95, .aload_n 0, 1, 0, 0, 0, 0), (96, .iload 9, 2, 0, 0, 0, 0), (98, .aload_n 0, 1, 0, 0, 0, 0), (99, .getfield 15, 3, 0, 3, 2, 1), (102, .iload 8, 2, 0, 0, 0, 0), (104, .iaload, 1, 0, 0, 0, 0), (105, .invokevirtual 49, 3, 0, 51, 2, 302), (108, .iload 9, 2, 1023, 0, 0, 0), (110, .iconst (-1), 1, 0, 0, 0, 0), (111, .if_icmp .ne 18, 3, 0, 129, 0, 0), (114, .aload_n 0, 1, 0, 0, 0, 0), (115, .getfield 32, 3, 0, 3, 7, 1), (118, .iload 6, 2, 0, 0, 0, 0), (120, .iload 7, 2, 0, 0, 0, 0), (122, .iastore, 1, 0, 0, 0, 0), (123, .iinc 6 1, 3, 0, 0, 0, 0), (126, .goto 33, 3, 0, 159, 0, 0), (129, .iload 9, 2, 0, 0, 0, 0), (131, .bipush (-2), 2, 0, 0, 0, 0), (133, .if_icmp .ne 9, 3, 0, 142, 0, 0), (136, .iinc 7 1, 3, 0, 0, 0, 0), (139, .goto 20, 3, 0, 159, 0, 0), (142, .iload 6, 2, 0, 0, 0, 0), (144, .ifCond .le 15, 3, 0, 159, 0, 0), (147, .iinc 6 (-1), 3, 0, 0, 0, 0), (150, .aload_n 0, 1, 0, 0, 0, 0), (151, .getfield 32, 3, 0, 3, 7, 1), (154, .iload 6, 2, 0, 0, 0, 0), (156, .iaload, 1, 0, 0, 0, 0), (157, .istore 7, 2, 0, 0, 0, 0), (159, .iinc 8 1, 3, 0, 0, 0, 0), (162, .goto (-153), 3, 0, 9, 0, 0), (165, .return_, 1, 1, 0, 0, 0)]
def am_m56 : am_M := (yX3_copyTrading, cX3_copyTrading, 11, none, am_r56)
def am_r57 : List am_I := [(0, .aload_n 0, 1, 0, 0, 0, 0), (1, .aload_n 0, 1, 0, 0, 0, 0), (2, .getfield 22, 3, 0, 3, 4, 1), (5, .aload_n 0, 1, 0, 0, 0, 0), (6, .getfield 25, 3, 0, 3, 5, 0), (9, .iaload, 1, 0, 0, 0, 0), (10, .putfield 18, 3, 0, 3, 3, 0), (13, .return_, 1, 1, 0, 0, 0)]
def am_m57 : am_M := (yX3_drop, cX3_drop, 1, none, am_r57)
def am_r58 : List am_I := [(0, .aload_n 0, 1, 0, 0, 0, 0), (1, .getfield 28, 3, 0, 3, 6, 0), (4, .ifCond .ne 33, 3, 0, 37, 0, 0), (7, .aload_n 0, 1, 0, 0, 0, 0), (8, .aload_n 0, 1, 0, 0, 0, 0), (9, .getfield 22, 3, 0, 3, 4, 1), (12, .aload_n 0, 1, 0, 0, 0, 0), (13, .getfield 25, 3, 0, 3, 5, 0), (16, .iaload, 1, 0, 0, 0, 0), (17, .aload_n 0, 1, 0, 0, 0, 0), (18, .getfield 18, 3, 0, 3, 3, 0), (21, .invokevirtual 60, 3, 0, 59, 2, 312), (24, .ifCond .eq 13, 3, 0, 37, 0, 0), (27, .aload_n 0, 1, 0, 0, 0, 0), (28, .getfield 18, 3, 0, 3, 3, 0), (31, .sipush 20000, 3, 0, 0, 0, 0), (34, .if_icmp .le 9, 3, 0, 43, 0, 0), (37, .aload_n 0, 1, 0, 0, 0, 0), (38, .iconst 1, 1, 0, 0, 0, 0), (39, .putfield 28, 3, 0, 3, 6, 2), (42, .return_, 1, 1, 0, 0, 0), (43, .aload_n 0, 1, 0, 0, 0, 0), (44, .getfield 25, 3, 0, 3, 5, 0), (47, .iconst 1, 1, 0, 0, 0, 0), (48, .iadd, 1, 0, 0, 0, 0), (49, .aload_n 0, 1, 0, 0, 0, 0), (50, .getfield 22, 3, 0, 3, 4, 1), (53, .arraylength, 1, 0, 0, 0, 0), (54, .if_icmp .ne 14, 3, 0, 68, 0, 0), (57, .aload_n 0, 1, 0, 0, 0, 0), (58, .aload_n 0, 1, 0, 0, 0, 0), (59, .getfield 22, 3, 0, 3, 4, 1), (62, .invokestatic 39, 3, 0, 118, 1, 24), (65, .putfield 22, 3, 0, 3, 4, 1), (68, .aload_n 0, 1, 0, 0, 0, 0), (69, .dup, 1, 0, 0, 0, 0), (70, .getfield 25, 3, 0, 3, 5, 0), (73, .iconst 1, 1, 0, 0, 0, 0), (74, .iadd, 1, 0, 0, 0, 0), (75, .putfield 25, 3, 0, 3, 5, 0), (78, .aload_n 0, 1, 0, 0, 0, 0), (79, .getfield 22, 3, 0, 3, 4, 1), (82, .aload_n 0, 1, 0, 0, 0, 0), (83, .getfield 25, 3, 0, 3, 5, 0), (86, .aload_n 0, 1, 0, 0, 0, 0), (87, .getfield 18, 3, 0, 3, 3, 0), (90, .iastore, 1, 0, 0, 0, 0), (91, .return_, 1, 1, 0, 0, 0)]
def am_m58 : am_M := (yX3_close, cX3_close, 1, none, am_r58)
def am_r59 : List am_I := [(0, .iconst 0, 1, 0, 0, 0, 0), (1, .istore_n 3, 1, 0, 0, 0, 0), (2, .iconst 1, 1, 0, 0, 0, 0), (3, .istore 4, 2, 0, 0, 0, 0), (5, .iload_n 1, 1, 0, 0, 0, 0), (6, .istore 5, 2, 0, 0, 0, 0), (8, .iload 5, 2, 63, 0, 0, 0), (10, .iload_n 2, 1, 0, 0, 0, 0), (11, .if_icmp .ge 79, 3, 0, 90, 0, 0), (14, .iload 4, 2, 0, 0, 0, 0), (16, .bipush 120, 2, 0, 0, 0, 0), (18, .if_icmp .le 5, 3, 0, 23, 0, 0), (21, .iconst 0, 1, 0, 0, 0, 0), (22, .ireturn, 1, 1, 1, 0, 0), (23, .aload_n 0, 1, 0, 0, 0, 0), (24, .getfield 9, 3, 0, 3, 1, 1), (27, .iload 5, 2, 0, 0, 0, 0), (29, .iaload, 1, 0, 0, 0, 0), (30, .iconst (-1), 1, 0, 0, 0, 0), (31, .if_icmp .ne 20, 3, 0, 51, 0, 0), (34, .iinc 4 1, 3, 0, 0, 0, 0), (37, .aload_n 0, 1, 0, 0, 0, 0), (38, .getfield 32, 3, 0, 3, 7, 1), (41, .iload_n 3, 1, 0, 0, 0, 0), (42, .iload 4, 2, 0, 0, 0, 0), (44, .iastore, 1, 0, 0, 0, 0), (45, .iinc 3 1, 3, 0, 0, 0, 0), (48, .goto 36, 3, 0, 84, 0, 0), (51, .aload_n 0, 1, 0, 0, 0, 0), (52, .getfield 9, 3, 0, 3, 1, 1), (55, .iload 5, 2, 0, 0, 0, 0), (57, .iaload, 1, 0, 0, 0, 0), (58, .bipush (-2), 2, 0, 0, 0, 0), (60, .if_icmp .ne 9, 3, 0, 69, 0, 0), (63, .iinc 4 1, 3, 0, 0, 0, 0), (66, .goto 18, 3, 0, 84, 0, 0), (69, .iload_n 3, 1, 0, 0, 0, 0), (70, .ifCond .le 14, 3, 0, 84, 0, 0), (73, .iinc 3 (-1), 3, 0, 0, 0, 0), (76, .aload_n 0, 1, 0, 0, 0, 0), (77, .getfield 32, 3, 0, 3, 7, 1), (80, .iload_n 3, 1, 0, 0, 0, 0), (81, .iaload, 1, 0, 0, 0, 0), (82, .istore 4, 2, 0, 0, 0, 0), (84, .iinc 5 1, 3, 0, 0, 0, 0), (87, .goto (-79), 3, 0, 8, 0, 0), (90, .iconst 1, 1, 0, 0, 0, 0), (91, .ireturn, 1, 1, 1, 0, 0)]
def am_m59 : am_M := (yX3_isLow, cX3_isLow, 6, (some .boolean), am_r59)
def am_r60 : List am_I := [(0, .iload_n 2, 1, 0, 0, 0, 0), (1, .iload_n 1, 1, 0, 0, 0, 0), (2, .isub, 1, 0, 0, 0, 0), (3, .iload 4, 2, 0, 0, 0, 0), (5, .iload_n 3, 1, 0, 0, 0, 0), (6, .isub, 1, 0, 0, 0, 0), (7, .if_icmp .eq 5, 3, 0, 12, 0, 0), (10, .iconst 0, 1, 0, 0, 0, 0), (11, .ireturn, 1, 1, 1, 0, 0), (12, .iload_n 3, 1, 0, 0, 0, 0), (13, .iload_n 1, 1, 0, 0, 0, 0), (14, .isub, 1, 0, 0, 0, 0), (15, .istore 5, 2, 0, 0, 0, 0), (17, .iload_n 1, 1, 0, 0, 0, 0), (18, .istore 6, 2, 0, 0, 0, 0), (20, .iload 6, 2, 103, 0, 0, 0), (22, .iload_n 2, 1, 0, 0, 0, 0), (23, .if_icmp .ge 51, 3, 0, 74, 0, 0), (26, .aload_n 0, 1, 0, 0, 0, 0), (27, .getfield 9, 3, 0, 3, 1, 1), (30, .iload 6, 2, 0, 0, 0, 0), (32, .iaload, 1, 0, 0, 0, 0), (33, .aload_n 0, 1, 0, 0, 0, 0), (34, .getfield 9, 3, 0, 3, 1, 1), (37, .iload 6, 2, 0, 0, 0, 0), (39, .iload 5, 2, 0, 0, 0, 0), (41, .iadd, 1, 0, 0, 0, 0), (42, .iaload, 1, 0, 0, 0, 0), (43, .if_icmp .ne 23, 3, 0, 66, 0, 0), (46, .aload_n 0, 1, 0, 0, 0, 0), (47, .getfield 15, 3, 0, 3, 2, 1), (50, .iload 6, 2, 0, 0, 0, 0), (52, .iaload, 1, 0, 0, 0, 0), (53, .aload_n 0, 1, 0, 0, 0, 0), (54, .getfield 15, 3, 0, 3, 2, 1), (57, .iload 6, 2, 0, 0, 0, 0), (59, .iload 5, 2, 0, 0, 0, 0), (61, .iadd, 1, 0, 0, 0, 0), (62, .iaload, 1, 0, 0, 0, 0), (63, .if_icmp .eq 5, 3, 0, 68, 0, 0), (66, .iconst 0, 1, 0, 0, 0, 0), (67, .ireturn, 1, 1, 1, 0, 0), (68, .iinc 6 1, 3, 0, 0, 0, 0), (71, .goto (-51), 3, 0, 20, 0, 0), (74, .iconst 1, 1, 0, 0, 0, 0), (75, .ireturn, 1, 1, 1, 0, 0)]
def am_m60 : am_M := (yX3_same, cX3_same, 7, (some .boolean), am_r60)
def am_r61 : List am_I := [(0, .aload_n 0, 1, 0, 0, 0, 0), (1, .aload_n 0, 1, 0, 0, 0, 0), (2, .getfield 22, 3, 0, 3, 4, 1), (5, .iload_n 1, 1, 0, 0, 0, 0), (6, .iaload, 1, 0, 0, 0, 0), (7, .aload_n 0, 1, 0, 0, 0, 0), (8, .getfield 22, 3, 0, 3, 4, 1), (11, .iload_n 1, 1, 0, 0, 0, 0), (12, .iconst 1, 1, 0, 0, 0, 0), (13, .iadd, 1, 0, 0, 0, 0), (14, .iaload, 1, 0, 0, 0, 0), (15, .aload_n 0, 1, 0, 0, 0, 0), (16, .getfield 22, 3, 0, 3, 4, 1), (19, .iload_n 2, 1, 0, 0, 0, 0), (20, .iaload, 1, 0, 0, 0, 0), (21, .aload_n 0, 1, 0, 0, 0, 0), (22, .getfield 22, 3, 0, 3, 4, 1), (25, .iload_n 2, 1, 0, 0, 0, 0), (26, .iconst 1, 1, 0, 0, 0, 0), (27, .iadd, 1, 0, 0, 0, 0), (28, .iaload, 1, 0, 0, 0, 0), (29, .invokevirtual 64, 3, 0, 60, 4, 312), (32, .ireturn, 1, 1, 1, 0, 0)]
def am_m61 : am_M := (yX3_sameRows, cX3_sameRows, 3, (some .boolean), am_r61)
def am_r62 : List am_I := [(0, .iconst 1, 1, 0, 0, 0, 0), (1, .istore_n 2, 1, 0, 0, 0, 0), (2, .iload_n 1, 1, 0, 0, 0, 0), (3, .istore_n 3, 1, 0, 0, 0, 0), (4, .iload_n 2, 1, 15, 0, 0, 0), (5, .ifCond .le 47, 3, 0, 52, 0, 0), (8, .iload_n 3, 1, 0, 0, 0, 0), (9, .aload_n 0, 1, 0, 0, 0, 0), (10, .getfield 18, 3, 0, 3, 3, 0), (13, .if_icmp .ge 39, 3, 0, 52, 0, 0), (16, .aload_n 0, 1, 0, 0, 0, 0), (17, .getfield 9, 3, 0, 3, 1, 1), (20, .iload_n 3, 1, 0, 0, 0, 0), (21, .iaload, 1, 0, 0, 0, 0), (22, .iconst (-1), 1, 0, 0, 0, 0), (23, .if_icmp .ne 9, 3, 0, 32, 0, 0), (26, .iinc 2 1, 3, 0, 0, 0, 0), (29, .goto 17, 3, 0, 46, 0, 0), (32, .aload_n 0, 1, 0, 0, 0, 0), (33, .getfield 9, 3, 0, 3, 1, 1), (36, .iload_n 3, 1, 0, 0, 0, 0), (37, .iaload, 1, 0, 0, 0, 0), (38, .bipush (-2), 2, 0, 0, 0, 0), (40, .if_icmp .eq 6, 3, 0, 46, 0, 0), (43, .iinc 2 (-1), 3, 0, 0, 0, 0), (46, .iinc 3 1, 3, 0, 0, 0, 0), (49, .goto (-45), 3, 0, 4, 0, 0), (52, .iload_n 3, 1, 0, 0, 0, 0), (53, .ireturn, 1, 1, 0, 0, 0)]
def am_m62 : am_M := (yX3_endOf, cX3_endOf, 4, (some .int), am_r62)
def am_r63 : List am_I := [(0, .aload_n 0, 1, 0, 0, 0, 0), (1, .getfield 22, 3, 0, 3, 4, 1), (4, .iload_n 1, 1, 0, 0, 0, 0), (5, .iaload, 1, 0, 0, 0, 0), (6, .istore_n 2, 1, 0, 0, 0, 0), (7, .aload_n 0, 1, 0, 0, 0, 0), (8, .getfield 22, 3, 0, 3, 4, 1), (11, .iload_n 1, 1, 0, 0, 0, 0), (12, .iconst 1, 1, 0, 0, 0, 0), (13, .iadd, 1, 0, 0, 0, 0), (14, .iaload, 1, 0, 0, 0, 0), (15, .istore_n 3, 1, 0, 0, 0, 0), (16, .iload_n 3, 1, 0, 0, 0, 0), (17, .iload_n 2, 1, 0, 0, 0, 0), (18, .isub, 1, 0, 0, 0, 0), (19, .iconst 5, 1, 0, 0, 0, 0), (20, .if_icmp .lt 37, 3, 0, 57, 0, 0), (23, .aload_n 0, 1, 0, 0, 0, 0), (24, .getfield 9, 3, 0, 3, 1, 1), (27, .iload_n 2, 1, 0, 0, 0, 0), (28, .iaload, 1, 0, 0, 0, 0), (29, .iconst (-1), 1, 0, 0, 0, 0), (30, .if_icmp .ne 27, 3, 0, 57, 0, 0), (33, .aload_n 0, 1, 0, 0, 0, 0), (34, .getfield 9, 3, 0, 3, 1, 1), (37, .iload_n 2, 1, 0, 0, 0, 0), (38, .iconst 1, 1, 0, 0, 0, 0), (39, .iadd, 1, 0, 0, 0, 0), (40, .iaload, 1, 0, 0, 0, 0), (41, .iconst (-1), 1, 0, 0, 0, 0), (42, .if_icmp .ne 15, 3, 0, 57, 0, 0), (45, .aload_n 0, 1, 0, 0, 0, 0), (46, .getfield 9, 3, 0, 3, 1, 1), (49, .iload_n 2, 1, 0, 0, 0, 0), (50, .iconst 2, 1, 0, 0, 0, 0), (51, .iadd, 1, 0, 0, 0, 0), (52, .iaload, 1, 0, 0, 0, 0), (53, .iconst 2, 1, 0, 0, 0, 0), (54, .if_icmp .eq 5, 3, 0, 59, 0, 0), (57, .aconst_null, 1, 0, 0, 0, 0), (58, .areturn, 1, 1, 0, 0, 0), (59, .new 68, 3, 0, 2, 0, 0), (62, .dup, 1, 0, 0, 0, 0), (63, .iload_n 2, 1, 0, 0, 0, 0), (64, .iconst 3, 1, 0, 0, 0, 0), (65, .iadd, 1, 0, 0, 0, 0), (66, .aload_n 0, 1, 0, 0, 0, 0), (67, .iload_n 2, 1, 0, 0, 0, 0), (68, .iconst 3, 1, 0, 0, 0, 0), (69, .iadd, 1, 0, 0, 0, 0), (70, .invokevirtual 70, 3, 0, 62, 1, 312), (73, .iload_n 3, 1, 0, 0, 0, 0), (74, .aload_n 0, 1, 0, 0, 0, 0), (75, .getfield 15, 3, 0, 3, 2, 1), (78, .iload_n 2, 1, 0, 0, 0, 0), (79, .iconst 3, 1, 0, 0, 0, 0), (80, .iadd, 1, 0, 0, 0, 0), (81, .iaload, 1, 0, 0, 0, 0), (82, .invokespecial 73, 3, 0, 48, 4, 1), (85, .areturn, 1, 1, 0, 0, 0)]
def am_m63 : am_M := (yX3_equationAt, cX3_equationAt, 4, (some (.object "TraceJudge$Equation")), am_r63)
def am_r64 : List am_I := [(0, .iload_n 1, 1, 0, 0, 0, 0), (1, .istore 5, 2, 0, 0, 0, 0), (3, .iload 5, 2, 63, 0, 0, 0), (5, .iload_n 2, 1, 0, 0, 0, 0), (6, .if_icmp .ge 34, 3, 0, 40, 0, 0), (9, .aload_n 0, 1, 0, 0, 0, 0), (10, .getfield 9, 3, 0, 3, 1, 1), (13, .iload 5, 2, 0, 0, 0, 0), (15, .iaload, 1, 0, 0, 0, 0), (16, .iload_n 3, 1, 0, 0, 0, 0), (17, .if_icmp .ne 17, 3, 0, 34, 0, 0), (20, .aload_n 0, 1, 0, 0, 0, 0), (21, .getfield 15, 3, 0, 3, 2, 1), (24, .iload 5, 2, 0, 0, 0, 0), (26, .iaload, 1, 0, 0, 0, 0), (27, .iload 4, 2, 0, 0, 0, 0), (29, .if_icmp .ne 5, 3, 0, 34, 0, 0), (32, .iconst 1, 1, 0, 0, 0, 0), (33, .ireturn, 1, 1, 1, 0, 0), (34, .iinc 5 1, 3, 0, 0, 0, 0), (37, .goto (-34), 3, 0, 3, 0, 0), (40, .iconst 0, 1, 0, 0, 0, 0), (41, .ireturn, 1, 1, 1, 0, 0)]
def am_m64 : am_M := (yX3_hasSymbol, cX3_hasSymbol, 6, (some .boolean), am_r64)
def am_r65 : List am_I := [(0, .iload_n 1, 1, 0, 0, 0, 0), (1, .istore_n 3, 1, 0, 0, 0, 0), (2, .iload_n 3, 1, 15, 0, 0, 0), (3, .iload_n 2, 1, 0, 0, 0, 0), (4, .if_icmp .ge 32, 3, 0, 36, 0, 0), (7, .aload_n 0, 1, 0, 0, 0, 0), (8, .getfield 9, 3, 0, 3, 1, 1), (11, .iload_n 3, 1, 0, 0, 0, 0), (12, .iaload, 1, 0, 0, 0, 0), (13, .ifCond .lt 17, 3, 0, 30, 0, 0), (16, .aload_n 0, 1, 0, 0, 0, 0), (17, .getfield 9, 3, 0, 3, 1, 1), (20, .iload_n 3, 1, 0, 0, 0, 0), (21, .iaload, 1, 0, 0, 0, 0), (22, .iconst 4, 1, 0, 0, 0, 0), (23, .irem, 1, 0, 0, 0, 0), (24, .iconst 1, 1, 0, 0, 0, 0), (25, .if_icmp .ne 5, 3, 0, 30, 0, 0), (28, .iconst 1, 1, 0, 0, 0, 0), (29, .ireturn, 1, 1, 1, 0, 0), (30, .iinc 3 1, 3, 0, 0, 0, 0), (33, .goto (-31), 3, 0, 2, 0, 0), (36, .iconst 0, 1, 0, 0, 0, 0), (37, .ireturn, 1, 1, 1, 0, 0)]
def am_m65 : am_M := (yX3_hasFree, cX3_hasFree, 4, (some .boolean), am_r65)
def am_r66 : List am_I := [(0, .iload_n 1, 1, 0, 0, 0, 0), (1, .istore_n 3, 1, 0, 0, 0, 0), (2, .iload_n 3, 1, 15, 0, 0, 0), (3, .iload_n 2, 1, 0, 0, 0, 0), (4, .if_icmp .ge 22, 3, 0, 26, 0, 0), (7, .aload_n 0, 1, 0, 0, 0, 0), (8, .getfield 35, 3, 0, 3, 0, 1), (11, .aload_n 0, 1, 0, 0, 0, 0), (12, .getfield 15, 3, 0, 3, 2, 1), (15, .iload_n 3, 1, 0, 0, 0, 0), (16, .iaload, 1, 0, 0, 0, 0), (17, .invokevirtual 76, 3, 0, 12, 1, 702), (20, .iinc 3 1, 3, 0, 0, 0, 0), (23, .goto (-21), 3, 0, 2, 0, 0), (26, .return_, 1, 1, 0, 0, 0)]
def am_m66 : am_M := (yX3_markTypes, cX3_markTypes, 4, none, am_r66)
def am_r67 : List am_I := [(0, .aload_n 0, 1, 0, 0, 0, 0), (1, .invokespecial 3, 3, 0, 0, 0, 0), (4, .aload_n 0, 1, 0, 0, 0, 0), (5, .iconst 0, 1, 0, 0, 0, 0), (6, .putfield 9, 3, 0, 4, 3, 0), (9, .aload_n 0, 1, 0, 0, 0, 0), (10, .iconst 0, 1, 0, 0, 0, 0), (11, .putfield 15, 3, 0, 4, 4, 0), (14, .aload_n 0, 1, 0, 0, 0, 0), (15, .bipush 64, 2, 0, 0, 0, 0), (17, .newarray .int, 2, 0, 0, 0, 0), (19, .putfield 18, 3, 0, 4, 5, 1), (22, .aload_n 0, 1, 0, 0, 0, 0), (23, .bipush 64, 2, 0, 0, 0, 0), (25, .newarray .int, 2, 0, 0, 0, 0), (27, .putfield 22, 3, 0, 4, 6, 1), (30, .aload_n 0, 1, 0, 0, 0, 0), (31, .bipush 64, 2, 0, 0, 0, 0), (33, .newarray .int, 2, 0, 0, 0, 0), (35, .putfield 25, 3, 0, 4, 7, 1), (38, .aload_n 0, 1, 0, 0, 0, 0), (39, .bipush 64, 2, 0, 0, 0, 0), (41, .newarray .int, 2, 0, 0, 0, 0), (43, .putfield 28, 3, 0, 4, 8, 1), (46, .aload_n 0, 1, 0, 0, 0, 0), (47, .aload_n 1, 1, 0, 0, 0, 0), (48, .putfield 31, 3, 0, 4, 0, 7), (51, .aload_n 0, 1, 0, 0, 0, 0), (52, .aload_n 2, 1, 0, 0, 0, 0), (53, .putfield 35, 3, 0, 4, 1, 7), (56, .aload_n 0, 1, 0, 0, 0, 0), (57, .aload_n 3, 1, 0, 0, 0, 0), (58, .putfield 39, 3, 0, 4, 2, 7), (61, .aload_n 0, 1, 0, 0, 0, 0), (62, .getfield 22, 3, 0, 4, 6, 1), (65, .iconst 0, 1, 0, 0, 0, 0), (66, .aload_n 1, 1, 0, 0, 0, 0), (67, .getfield 43, 3, 0, 7, 8, 2), (70, .iastore, 1, 0, 0, 0, 0), (71, .return_, 1, 1, 0, 0, 0)]
def am_m67 : am_M := (yX4_init, cX4_init, 4, none, am_r67)
def am_r68 : List am_I := [(0, .iload_n 1, 1, 0, 0, 0, 0), (1, .ifCond .lt 15, 3, 0, 16, 0, 0), (4, .iload_n 1, 1, 0, 0, 0, 0), (5, .aload_n 0, 1, 0, 0, 0, 0), (6, .getfield 9, 3, 0, 4, 3, 0), (9, .if_icmp .ge 7, 3, 0, 16, 0, 0), (12, .iconst 1, 1, 0, 0, 0, 0), (13, .goto 4, 3, 0, 17, 0, 0), (16, .iconst 0, 1, 0, 0, 0, 0), (17, .ireturn, 1, 1, 1, 0, 0)]
def am_m68 : am_M := (yX4_has, cX4_has, 2, (some .boolean), am_r68)
def am_r69 : List am_I := [(0, .aload_n 0, 1, 0, 0, 0, 0), (1, .getfield 18, 3, 0, 4, 5, 1), (4, .iload_n 1, 1, 0, 0, 0, 0), (5, .iconst 1, 1, 0, 0, 0, 0), (6, .iadd, 1, 0, 0, 0, 0), (7, .iaload, 1, 0, 0, 0, 0), (8, .iconst 1, 1, 0, 0, 0, 0), (9, .isub, 1, 0, 0, 0, 0), (10, .ireturn, 1, 1, 0, 0, 0)]
def am_m69 : am_M := (yX4_conclusionOf, cX4_conclusionOf, 2, (some .int), am_r69)
def am_r70 : List am_I := [(0, .aload_n 0, 1, 0, 0, 0, 0), (1, .iload_n 1, 1, 0, 0, 0, 0), (2, .invokevirtual 46, 3, 0, 69, 1, 412), (5, .aload_n 0, 1, 0, 0, 0, 0), (6, .getfield 18, 3, 0, 4, 5, 1), (9, .iload_n 1, 1, 0, 0, 0, 0), (10, .iaload, 1, 0, 0, 0, 0), (11, .isub, 1, 0, 0, 0, 0), (12, .ireturn, 1, 1, 0, 0, 0)]
def am_m70 : am_M := (yX4_hypothesesOf, cX4_hypothesesOf, 2, (some .int), am_r70)
def am_r71 : List am_I := [(0, .aload_n 0, 1, 0, 0, 0, 0), (1, .iload_n 1, 1, 0, 0, 0, 0), (2, .invokevirtual 50, 3, 0, 68, 1, 412), (5, .ifCond .eq 17, 3, 0, 22, 0, 0), (8, .iload_n 2, 1, 0, 0, 0, 0), (9, .iconst (-1), 1, 0, 0, 0, 0), (10, .if_icmp .lt 12, 3, 0, 22, 0, 0), (13, .iload_n 2, 1, 0, 0, 0, 0), (14, .aload_n 0, 1, 0, 0, 0, 0), (15, .iload_n 1, 1, 0, 0, 0, 0), (16, .invokevirtual 54, 3, 0, 70, 1, 412), (19, .if_icmp .lt 5, 3, 0, 24, 0, 0), (22, .iconst (-1), 1, 0, 0, 0, 0), (23, .ireturn, 1, 1, 0, 0, 0), (24, .iload_n 2, 1, 0, 0, 0, 0), (25, .iconst (-1), 1, 0, 0, 0, 0), (26, .if_icmp .ne 11, 3, 0, 37, 0, 0), (29, .aload_n 0, 1, 0, 0, 0, 0), (30, .iload_n 1, 1, 0, 0, 0, 0), (31, .invokevirtual 46, 3, 0, 69, 1, 412), (34, .goto 11, 3, 0, 45, 0, 0), (37, .aload_n 0, 1, 0, 0, 0, 0), (38, .getfield 18, 3, 0, 4, 5, 1), (41, .iload_n 1, 1, 0, 0, 0, 0), (42, .iaload, 1, 0, 0, 0, 0), (43, .iload_n 2, 1, 0, 0, 0, 0), (44, .iadd, 1, 0, 0, 0, 0), (45, .istore 4, 2, 0, 0, 0, 0), (47, .aload_n 0, 1, 0, 0, 0, 0), (48, .getfield 39, 3, 0, 4, 2, 1), (51, .getfield 57, 3, 0, 3, 4, 3), (54, .iload 4, 2, 0, 0, 0, 0), (56, .iconst 1, 1, 0, 0, 0, 0), (57, .iadd, 1, 0, 0, 0, 0), (58, .iaload, 1, 0, 0, 0, 0), (59, .aload_n 0, 1, 0, 0, 0, 0), (60, .getfield 39, 3, 0, 4, 2, 1), (63, .getfield 57, 3, 0, 3, 4, 3), (66, .iload 4, 2, 0, 0, 0, 0), (68, .iaload, 1, 0, 0, 0, 0), (69, .isub, 1, 0, 0, 0, 0), (70, .istore 5, 2, 0, 0, 0, 0), (72, .iload_n 3, 1, 0, 0, 0, 0), (73, .ifCond .lt 9, 3, 0, 82, 0, 0), (76, .iload_n 3, 1, 0, 0, 0, 0), (77, .iload 5, 2, 0, 0, 0, 0), (79, .if_icmp .lt 7, 3, 0, 86, 0, 0), (82, .iconst (-1), 1, 0, 0, 0, 0), (83, .goto 15, 3, 0, 98, 0, 0), (86, .aload_n 0, 1, 0, 0, 0, 0), (87, .getfield 39, 3, 0, 4, 2, 1), (90, .getfield 57, 3, 0, 3, 4, 3), (93, .iload 4, 2, 0, 0, 0, 0), (95, .iaload, 1, 0, 0, 0, 0), (96, .iload_n 3, 1, 0, 0, 0, 0), (97, .iadd, 1, 0, 0, 0, 0), (98, .ireturn, 1, 1, 0, 0, 0)]
def am_m71 : am_M := (yX4_placeOf, cX4_placeOf, 6, (some .int), am_r71)
def am_r72 : List am_I := [(0, .iload_n 1, 1, 0, 0, 0, 0), (1, .aload_n 0, 1, 0, 0, 0, 0), (2, .getfield 15, 3, 0, 4, 4, 0), (5, .if_icmp .lt 15, 3, 0, 20, 0, 0), (8, .iload_n 1, 1, 0, 0, 0, 0), (9, .aload_n 0, 1, 0, 0, 0, 0), (10, .getfield 9, 3, 0, 4, 3, 0), (13, .if_icmp .gt 7, 3, 0, 20, 0, 0), (16, .iconst 1, 1, 0, 0, 0, 0), (17, .goto 4, 3, 0, 21, 0, 0), (20, .iconst 0, 1, 0, 0, 0, 0), (21, .ireturn, 1, 1, 1, 0, 0)]
def am_m72 : am_M := (yX4_canEndAt, cX4_canEndAt, 2, (some .boolean), am_r72)
def am_r73 : List am_I := [(0, .aload_n 0, 1, 0, 0, 0, 0), (1, .iload_n 1, 1, 0, 0, 0, 0), (2, .putfield 9, 3, 0, 4, 3, 0), (5, .aload_n 0, 1, 0, 0, 0, 0), (6, .getfield 39, 3, 0, 4, 2, 1), (9, .aload_n 0, 1, 0, 0, 0, 0), (10, .getfield 18, 3, 0, 4, 5, 1), (13, .iload_n 1, 1, 0, 0, 0, 0), (14, .iaload, 1, 0, 0, 0, 0), (15, .invokevirtual 62, 3, 0, 50, 1, 302), (18, .return_, 1, 1, 0, 0, 0)]
def am_m73 : am_M := (yX4_shorten, cX4_shorten, 2, none, am_r73)
def am_r74 : List am_I := [(0, .aload_n 0, 1, 0, 0, 0, 0), (1, .getfield 18, 3, 0, 4, 5, 1), (4, .iload_n 1, 1, 0, 0, 0, 0), (5, .iaload, 1, 0, 0, 0, 0), (6, .istore_n 3, 1, 0, 0, 0, 0), (7, .iload_n 3, 1, 17, 0, 0, 0), (8, .aload_n 0, 1, 0, 0, 0, 0), (9, .iload_n 1, 1, 0, 0, 0, 0), (10, .invokevirtual 46, 3, 0, 69, 1, 412), (13, .if_icmp .ge 67, 3, 0, 80, 0, 0), (16, .aload_n 0, 1, 0, 0, 0, 0), (17, .getfield 39, 3, 0, 4, 2, 1), (20, .getfield 66, 3, 0, 3, 6, 2), (23, .ifCond .ne 57, 3, 0, 80, 0, 0), (26, .iload_n 2, 1, 0, 0, 0, 0), (27, .iconst (-1), 1, 0, 0, 0, 0), (28, .if_icmp .eq 15, 3, 0, 43, 0, 0), (31, .aload_n 0, 1, 0, 0, 0, 0), (32, .getfield 39, 3, 0, 4, 2, 1), (35, .iload_n 3, 1, 0, 0, 0, 0), (36, .iload_n 2, 1, 0, 0, 0, 0), (37, .invokevirtual 70, 3, 0, 61, 2, 312), (40, .ifCond .ne 34, 3, 0, 74, 0, 0), (43, .aload_n 0, 1, 0, 0, 0, 0), (44, .getfield 39, 3, 0, 4, 2, 1), (47, .aload_n 0, 1, 0, 0, 0, 0), (48, .getfield 39, 3, 0, 4, 2, 1), (51, .getfield 57, 3, 0, 3, 4, 3), (54, .iload_n 3, 1, 0, 0, 0, 0), (55, .iaload, 1, 0, 0, 0, 0), (56, .aload_n 0, 1, 0, 0, 0, 0), (57, .getfield 39, 3, 0, 4, 2, 1), (60, .getfield 57, 3, 0, 3, 4, 3), (63, .iload_n 3, 1, 0, 0, 0, 0), (64, .iconst 1, 1, 0, 0, 0, 0), (65, .iadd, 1, 0, 0, 0, 0), (66, .iaload, 1, 0, 0, 0, 0), (67, .invokevirtual 74, 3, 0, 54, 2, 302), (70, .aload_n 0, 1, 0, 0, 0, 0), (71, .invokevirtual 78, 3, 0, 75, 0, 402), (74, .iinc 3 1, 3, 0, 0, 0, 0), (77, .goto (-70), 3, 0, 7, 0, 0), (80, .return_, 1, 1, 0, 0, 0)]
def am_m74 : am_M := (yX4_join, cX4_join, 4, none, am_r74)
def am_r75 : List am_I := [(0, .aload_n 0, 1, 0, 0, 0, 0), (1, .getfield 39, 3, 0, 4, 2, 1), (4, .getfield 66, 3, 0, 3, 6, 2), (7, .ifCond .eq 4, 3, 0, 11, 0, 0), (10, .return_, 1, 1, 0, 0, 0), (11, .aload_n 0, 1, 0, 0, 0, 0), (12, .getfield 18, 3, 0, 4, 5, 1), (15, .aload_n 0, 1, 0, 0, 0, 0), (16, .getfield 9, 3, 0, 4, 3, 0), (19, .iaload, 1, 0, 0, 0, 0), (20, .istore_n 1, 1, 0, 0, 0, 0), (21, .iload_n 1, 1, 5, 0, 0, 0), (22, .aload_n 0, 1, 0, 0, 0, 0), (23, .getfield 39, 3, 0, 4, 2, 1), (26, .getfield 81, 3, 0, 3, 5, 2), (29, .if_icmp .ge 69, 3, 0, 98, 0, 0), (32, .aload_n 0, 1, 0, 0, 0, 0), (33, .getfield 39, 3, 0, 4, 2, 1), (36, .aload_n 0, 1, 0, 0, 0, 0), (37, .getfield 39, 3, 0, 4, 2, 1), (40, .getfield 57, 3, 0, 3, 4, 3), (43, .iload_n 1, 1, 0, 0, 0, 0), (44, .iaload, 1, 0, 0, 0, 0), (45, .aload_n 0, 1, 0, 0, 0, 0), (46, .getfield 39, 3, 0, 4, 2, 1), (49, .getfield 57, 3, 0, 3, 4, 3), (52, .iload_n 1, 1, 0, 0, 0, 0), (53, .iconst 1, 1, 0, 0, 0, 0), (54, .iadd, 1, 0, 0, 0, 0), (55, .iaload, 1, 0, 0, 0, 0), (56, .aload_n 0, 1, 0, 0, 0, 0), (57, .getfield 39, 3, 0, 4, 2, 1), (60, .getfield 57, 3, 0, 3, 4, 3), (63, .aload_n 0, 1, 0, 0, 0, 0), (64, .getfield 39, 3, 0, 4, 2, 1), (67, .getfield 81, 3, 0, 3, 5, 2), (70, .iaload, 1, 0, 0, 0, 0), (71, .aload_n 0, 1, 0, 0, 0, 0), (72, .getfield 39, 3, 0, 4, 2, 1), (75, .getfield 82, 3, 0, 3, 3, 2), (78, .invokevirtual 85, 3, 0, 60, 4, 312), (81, .ifCond .eq 11, 3, 0, 92, 0, 0), (84, .aload_n 0, 1, 0, 0, 0, 0), (85, .getfield 39, 3, 0, 4, 2, 1), (88, .invokevirtual 89, 3, 0, 57, 0, 302), (91, .return_, 1, 1, 0, 0, 0), (92, .iinc 1 1, 3, 0, 0, 0, 0), (95, .goto (-74), 3, 0, 21, 0, 0), (98, .aload_n 0, 1, 0, 0, 0, 0), (99, .getfield 39, 3, 0, 4, 2, 1), (102, .invokevirtual 92, 3, 0, 58, 0, 302), (105, .aload_n 0, 1, 0, 0, 0, 0), (106, .getfield 39, 3, 0, 4, 2, 1), (109, .getfield 81, 3, 0, 3, 5, 2), (112, .aload_n 0, 1, 0, 0, 0, 0), (113, .getfield 18, 3, 0, 4, 5, 1), (116, .aload_n 0, 1, 0, 0, 0, 0), (117, .getfield 9, 3, 0, 4, 3, 0), (120, .iaload, 1, 0, 0, 0, 0), (121, .isub, 1, 0, 0, 0, 0), (122, .bipush 60, 2, 0, 0, 0, 0), (124, .if_icmp .le 11, 3, 0, 135, 0, 0), (127, .aload_n 0, 1, 0, 0, 0, 0), (128, .getfield 39, 3, 0, 4, 2, 1), (131, .iconst 1, 1, 0, 0, 0, 0), (132, .putfield 66, 3, 0, 3, 6, 5), (135, .return_, 1, 1, 0, 0, 0)]
def am_m75 : am_M := (yX4_addHypothesis, cX4_addHypothesis, 2, none, am_r75)
def am_r76 : List am_I := [(0, .aload_n 0, 1, 0, 0, 0, 0), (1, .getfield 39, 3, 0, 4, 2, 1), (4, .invokevirtual 92, 3, 0, 58, 0, 302), (7, .aload_n 0, 1, 0, 0, 0, 0), (8, .getfield 39, 3, 0, 4, 2, 1), (11, .getfield 66, 3, 0, 3, 6, 2), (14, .ifCond .ne 13, 3, 0, 27, 0, 0), (17, .aload_n 0, 1, 0, 0, 0, 0), (18, .getfield 9, 3, 0, 4, 3, 0), (21, .sipush 1000, 3, 0, 0, 0, 0), (24, .if_icmp .lt 5, 3, 0, 29, 0, 0), (27, .iconst 0, 1, 0, 0, 0, 0), (28, .ireturn, 1, 1, 1, 0, 0), (29, .aload_n 0, 1, 0, 0, 0, 0), (30, .getfield 9, 3, 0, 4, 3, 0), (33, .iconst 1, 1, 0, 0, 0, 0), (34, .iadd, 1, 0, 0, 0, 0), (35, .aload_n 0, 1, 0, 0, 0, 0), (36, .getfield 18, 3, 0, 4, 5, 1), (39, .arraylength, 1, 0, 0, 0, 0), (40, .if_icmp .ne 47, 3, 0, 87, 0, 0), (43, .aload_n 0, 1, 0, 0, 0, 0), (44, .aload_n 0, 1, 0, 0, 0, 0), (45, .getfield 18, 3, 0, 4, 5, 1), (48, .invokestatic 95, 3, 0, 118, 1, 24), (51, .putfield 18, 3, 0, 4, 5, 1), (54, .aload_n 0, 1, 0, 0, 0, 0), (55, .aload_n 0, 1, 0, 0, 0, 0), (56, .getfield 22, 3, 0, 4, 6, 1), (59, .invokestatic 95, 3, 0, 118, 1, 24), (62, .putfield 22, 3, 0, 4, 6, 1), (65, .aload_n 0, 1, 0, 0, 0, 0), (66, .aload_n 0, 1, 0, 0, 0, 0), (67, .getfield 25, 3, 0, 4, 7, 1), (70, .invokestatic 95, 3, 0, 118, 1, 24), (73, .putfield 25, 3, 0, 4, 7, 1), (76, .aload_n 0, 1, 0, 0, 0, 0), (77, .aload_n 0, 1, 0, 0, 0, 0), (78, .getfield 28, 3, 0, 4, 8, 1), (81, .invokestatic 95, 3, 0, 118, 1, 24), (84, .putfield 28, 3, 0, 4, 8, 1), (87, .aload_n 0, 1, 3, 0, 0, 0), (88, .dup, 1, 0, 0, 0, 0), (89, .getfield 9, 3, 0, 4, 3, 0), (92, .iconst 1, 1, 0, 0, 0, 0), (93, .iadd, 1, 0, 0, 0, 0), (94, .putfield 9, 3, 0, 4, 3, 0), (97, .aload_n 0, 1, 0, 0, 0, 0), (98, .getfield 18, 3, 0, 4, 5, 1), (101, .aload_n 0, 1, 0, 0, 0, 0), (102, .getfield 9, 3, 0, 4, 3, 0), (105, .aload_n 0, 1, 0, 0, 0, 0), (106, .getfield 39, 3, 0, 4, 2, 1), (109, .getfield 81, 3, 0, 3, 5, 2), (112, .iastore, 1, 0, 0, 0, 0), (113, .aload_n 0, 1, 0, 0, 0, 0), (114, .getfield 22, 3, 0, 4, 6, 1), (117, .aload_n 0, 1, 0, 0, 0, 0), (118, .getfield 9, 3, 0, 4, 3, 0), (121, .aload_n 0, 1, 0, 0, 0, 0), (122, .getfield 31, 3, 0, 4, 0, 1), (125, .getfield 43, 3, 0, 7, 8, 2), (128, .iastore, 1, 0, 0, 0, 0), (129, .aload_n 0, 1, 0, 0, 0, 0), (130, .getfield 25, 3, 0, 4, 7, 1), (133, .aload_n 0, 1, 0, 0, 0, 0), (134, .getfield 9, 3, 0, 4, 3, 0), (137, .aload_n 0, 1, 0, 0, 0, 0), (138, .getfield 35, 3, 0, 4, 1, 1), (141, .getfield 99, 3, 0, 1, 3, 2), (144, .iastore, 1, 0, 0, 0, 0), (145, .aload_n 0, 1, 0, 0, 0, 0), (146, .getfield 28, 3, 0, 4, 8, 1), (149, .aload_n 0, 1, 0, 0, 0, 0), (150, .getfield 9, 3, 0, 4, 3, 0), (153, .aload_n 0, 1, 0, 0, 0, 0), (154, .getfield 35, 3, 0, 4, 1, 1), (157, .getfield 104, 3, 0, 1, 11, 2), (160, .iastore, 1, 0, 0, 0, 0), (161, .iconst 1, 1, 0, 0, 0, 0), (162, .ireturn, 1, 1, 1, 0, 0)]
def am_m76 : am_M := (yX4_add, cX4_add, 1, (some .boolean), am_r76)
def am_r77 : List am_I := [(0, .aload_n 0, 1, 0, 0, 0, 0), (1, .invokevirtual 107, 3, 0, 76, 0, 412), (4, .ifCond .ne 5, 3, 0, 9, 0, 0), (7, .iconst 0, 1, 0, 0, 0, 0), (8, .ireturn, 1, 1, 1, 0, 0), (9, .aload_n 0, 1, 0, 0, 0, 0), (10, .aload_n 0, 1, 0, 0, 0, 0), (11, .getfield 9, 3, 0, 4, 3, 0), (14, .putfield 15, 3, 0, 4, 4, 0), (17, .iconst 1, 1, 0, 0, 0, 0), (18, .ireturn, 1, 1, 1, 0, 0)]
def am_m77 : am_M := (yX4_addFirm, cX4_addFirm, 1, (some .boolean), am_r77)
def am_r78 : List am_I := [(0, .aload_n 0, 1, 0, 0, 0, 0), (1, .invokespecial 3, 3, 0, 0, 0, 0), (4, .aload_n 0, 1, 0, 0, 0, 0), (5, .aload_n 1, 1, 0, 0, 0, 0), (6, .putfield 9, 3, 0, 6, 0, 7), (9, .aload_n 0, 1, 0, 0, 0, 0), (10, .aload_n 2, 1, 0, 0, 0, 0), (11, .putfield 15, 3, 0, 6, 1, 7), (14, .aload_n 0, 1, 0, 0, 0, 0), (15, .aload_n 3, 1, 0, 0, 0, 0), (16, .putfield 19, 3, 0, 6, 2, 7), (19, .aload_n 0, 1, 0, 0, 0, 0), (20, .aload 4, 2, 0, 0, 0, 0), (22, .putfield 23, 3, 0, 6, 3, 7), (25, .aload_n 0, 1, 0, 0, 0, 0), (26, .aload 5, 2, 0, 0, 0, 0), (28, .putfield 27, 3, 0, 6, 4, 7), (31, .return_, 1, 1, 0, 0, 0)]
def am_m78 : am_M := (yX6_init, cX6_init, 6, none, am_r78)
def am_r79 : List am_I := [(0, .aload_n 0, 1, 0, 0, 0, 0), (1, .getfield 19, 3, 0, 6, 2, 1), (4, .iload_n 1, 1, 0, 0, 0, 0), (5, .invokevirtual 31, 3, 0, 33, 1, 112), (8, .ifCond .ne 5, 3, 0, 13, 0, 0), (11, .iconst 0, 1, 0, 0, 0, 0), (12, .ireturn, 1, 1, 1, 0, 0), (13, .aload_n 0, 1, 0, 0, 0, 0), (14, .getfield 23, 3, 0, 6, 3, 1), (17, .aload_n 0, 1, 0, 0, 0, 0), (18, .getfield 19, 3, 0, 6, 2, 1), (21, .getfield 37, 3, 0, 1, 5, 3), (24, .iload_n 1, 1, 0, 0, 0, 0), (25, .iaload, 1, 0, 0, 0, 0), (26, .invokevirtual 41, 3, 0, 52, 1, 302), (29, .aload_n 0, 1, 0, 0, 0, 0), (30, .getfield 19, 3, 0, 6, 2, 1), (33, .aload_n 0, 1, 0, 0, 0, 0), (34, .getfield 23, 3, 0, 6, 3, 1), (37, .iload_n 1, 1, 0, 0, 0, 0), (38, .invokevirtual 47, 3, 0, 47, 2, 102), (41, .aload_n 0, 1, 0, 0, 0, 0), (42, .getfield 19, 3, 0, 6, 2, 1), (45, .aload_n 0, 1, 0, 0, 0, 0), (46, .getfield 23, 3, 0, 6, 3, 1), (49, .iload_n 1, 1, 0, 0, 0, 0), (50, .invokevirtual 47, 3, 0, 47, 2, 102), (53, .aload_n 0, 1, 0, 0, 0, 0), (54, .getfield 27, 3, 0, 6, 4, 1), (57, .invokevirtual 51, 3, 0, 76, 0, 412), (60, .ireturn, 1, 1, 1, 0, 0)]
def am_m79 : am_M := (yX6_reflexive, cX6_reflexive, 2, (some .boolean), am_r79)
def am_r80 : List am_I := [(0, .aload_n 0, 1, 0, 0, 0, 0), (1, .iload_n 1, 1, 0, 0, 0, 0), (2, .invokevirtual 57, 3, 0, 95, 1, 622), (5, .astore_n 3, 1, 0, 0, 0, 0), (6, .aload_n 0, 1, 0, 0, 0, 0), (7, .iload_n 2, 1, 0, 0, 0, 0), (8, .invokevirtual 57, 3, 0, 95, 1, 622), (11, .astore 4, 2, 0, 0, 0, 0), (13, .aload_n 3, 1, 0, 0, 0, 0), (14, .ifnull 36, 3, 0, 50, 0, 0), (17, .aload 4, 2, 0, 0, 0, 0), (19, .ifnull 31, 3, 0, 50, 0, 0), (22, .aload_n 0, 1, 0, 0, 0, 0), (23, .getfield 23, 3, 0, 6, 3, 1), (26, .aload_n 3, 1, 0, 0, 0, 0), (27, .getfield 61, 3, 0, 2, 1, 2), (30, .aload_n 3, 1, 0, 0, 0, 0), (31, .getfield 67, 3, 0, 2, 2, 2), (34, .aload 4, 2, 0, 0, 0, 0), (36, .getfield 70, 3, 0, 2, 0, 2), (39, .aload 4, 2, 0, 0, 0, 0), (41, .getfield 61, 3, 0, 2, 1, 2), (44, .invokevirtual 73, 3, 0, 60, 4, 312), (47, .ifCond .ne 5, 3, 0, 52, 0, 0), (50, .iconst 0, 1, 0, 0, 0, 0), (51, .ireturn, 1, 1, 1, 0, 0), (52, .aload_n 0, 1, 0, 0, 0, 0), (53, .getfield 27, 3, 0, 6, 4, 1), (56, .iload_n 1, 1, 0, 0, 0, 0), (57, .iconst (-1), 1, 0, 0, 0, 0), (58, .invokevirtual 77, 3, 0, 74, 2, 402), (61, .aload_n 0, 1, 0, 0, 0, 0), (62, .getfield 27, 3, 0, 6, 4, 1), (65, .iload_n 2, 1, 0, 0, 0, 0), (66, .iconst (-1), 1, 0, 0, 0, 0), (67, .invokevirtual 77, 3, 0, 74, 2, 402), (70, .aload_n 0, 1, 0, 0, 0, 0), (71, .getfield 23, 3, 0, 6, 3, 1), (74, .aload_n 3, 1, 0, 0, 0, 0), (75, .getfield 81, 3, 0, 2, 3, 2), (78, .invokevirtual 41, 3, 0, 52, 1, 302), (81, .aload_n 0, 1, 0, 0, 0, 0), (82, .getfield 23, 3, 0, 6, 3, 1), (85, .aload_n 3, 1, 0, 0, 0, 0), (86, .getfield 70, 3, 0, 2, 0, 2), (89, .aload_n 3, 1, 0, 0, 0, 0), (90, .getfield 61, 3, 0, 2, 1, 2), (93, .invokevirtual 83, 3, 0, 54, 2, 302), (96, .aload_n 0, 1, 0, 0, 0, 0), (97, .getfield 23, 3, 0, 6, 3, 1), (100, .aload 4, 2, 0, 0, 0, 0), (102, .getfield 61, 3, 0, 2, 1, 2), (105, .aload 4, 2, 0, 0, 0, 0), (107, .getfield 67, 3, 0, 2, 2, 2), (110, .invokevirtual 83, 3, 0, 54, 2, 302), (113, .aload_n 0, 1, 0, 0, 0, 0), (114, .getfield 27, 3, 0, 6, 4, 1), (117, .invokevirtual 51, 3, 0, 76, 0, 412), (120, .ireturn, 1, 1, 1, 0, 0)]
def am_m80 : am_M := (yX6_transitive, cX6_transitive, 5, (some .boolean), am_r80)
def am_r81 : List am_I := [(0, .aload_n 0, 1, 0, 0, 0, 0), (1, .iload_n 1, 1, 0, 0, 0, 0), (2, .invokevirtual 57, 3, 0, 95, 1, 622), (5, .astore_n 3, 1, 0, 0, 0, 0), (6, .aload_n 0, 1, 0, 0, 0, 0), (7, .iload_n 2, 1, 0, 0, 0, 0), (8, .invokevirtual 57, 3, 0, 95, 1, 622), (11, .astore 4, 2, 0, 0, 0, 0), (13, .aload_n 3, 1, 0, 0, 0, 0), (14, .ifnull 42, 3, 0, 56, 0, 0), (17, .aload 4, 2, 0, 0, 0, 0), (19, .ifnull 37, 3, 0, 56, 0, 0), (22, .aload_n 0, 1, 0, 0, 0, 0), (23, .getfield 9, 3, 0, 6, 0, 1), (26, .aload_n 3, 1, 0, 0, 0, 0), (27, .getfield 81, 3, 0, 2, 3, 2), (30, .invokevirtual 86, 3, 0, 8, 1, 712), (33, .ifCond .eq 23, 3, 0, 56, 0, 0), (36, .aload_n 0, 1, 0, 0, 0, 0), (37, .getfield 9, 3, 0, 6, 0, 1), (40, .getfield 91, 3, 0, 7, 1, 3), (43, .aload_n 3, 1, 0, 0, 0, 0), (44, .getfield 81, 3, 0, 2, 3, 2), (47, .iaload, 1, 0, 0, 0, 0), (48, .aload 4, 2, 0, 0, 0, 0), (50, .getfield 81, 3, 0, 2, 3, 2), (53, .if_icmp .eq 5, 3, 0, 58, 0, 0), (56, .iconst 0, 1, 0, 0, 0, 0), (57, .ireturn, 1, 1, 1, 0, 0), (58, .aload_n 0, 1, 0, 0, 0, 0), (59, .getfield 9, 3, 0, 6, 0, 1), (62, .getfield 93, 3, 0, 7, 2, 3), (65, .aload_n 3, 1, 0, 0, 0, 0), (66, .getfield 81, 3, 0, 2, 3, 2), (69, .iaload, 1, 0, 0, 0, 0), (70, .istore 5, 2, 0, 0, 0, 0), (72, .aload_n 0, 1, 0, 0, 0, 0), (73, .getfield 27, 3, 0, 6, 4, 1), (76, .iload_n 1, 1, 0, 0, 0, 0), (77, .iconst (-1), 1, 0, 0, 0, 0), (78, .invokevirtual 77, 3, 0, 74, 2, 402), (81, .aload_n 0, 1, 0, 0, 0, 0), (82, .getfield 27, 3, 0, 6, 4, 1), (85, .iload_n 2, 1, 0, 0, 0, 0), (86, .iconst (-1), 1, 0, 0, 0, 0), (87, .invokevirtual 77, 3, 0, 74, 2, 402), (90, .aload_n 0, 1, 0, 0, 0, 0), (91, .getfield 23, 3, 0, 6, 3, 1), (94, .iload 5, 2, 0, 0, 0, 0), (96, .invokevirtual 41, 3, 0, 52, 1, 302), (99, .aload_n 0, 1, 0, 0, 0, 0), (100, .getfield 23, 3, 0, 6, 3, 1), (103, .iconst (-1), 1, 0, 0, 0, 0), (104, .iload 5, 2, 0, 0, 0, 0), (106, .invokevirtual 95, 3, 0, 51, 2, 302), (109, .aload_n 0, 1, 0, 0, 0, 0), (110, .getfield 23, 3, 0, 6, 3, 1), (113, .aload_n 3, 1, 0, 0, 0, 0), (114, .getfield 70, 3, 0, 2, 0, 2), (117, .aload_n 3, 1, 0, 0, 0, 0), (118, .getfield 61, 3, 0, 2, 1, 2), (121, .invokevirtual 83, 3, 0, 54, 2, 302), (124, .aload_n 0, 1, 0, 0, 0, 0), (125, .getfield 23, 3, 0, 6, 3, 1), (128, .aload 4, 2, 0, 0, 0, 0), (130, .getfield 70, 3, 0, 2, 0, 2), (133, .aload 4, 2, 0, 0, 0, 0), (135, .getfield 61, 3, 0, 2, 1, 2), (138, .invokevirtual 83, 3, 0, 54, 2, 302), (141, .aload_n 0, 1, 0, 0, 0, 0), (142, .getfield 23, 3, 0, 6, 3, 1), (145, .iconst (-1), 1, 0, 0, 0, 0), (146, .iload 5, 2, 0, 0, 0, 0), (148, .invokevirtual 95, 3, 0, 51, 2, 302), (151, .aload_n 0, 1, 0, 0, 0, 0), (152, .getfield 23, 3, 0, 6, 3, 1), (155, .aload_n 3, 1, 0, 0, 0, 0), (156, .getfield 61, 3, 0, 2, 1, 2), (159, .aload_n 3, 1, 0, 0, 0, 0), (160, .getfield 67, 3, 0, 2, 2, 2), (163, .invokevirtual 83, 3, 0, 54, 2, 302), (166, .aload_n 0, 1, 0, 0, 0, 0), (167, .getfield 23, 3, 0, 6, 3, 1), (170, .aload 4, 2, 0, 0, 0, 0), (172, .getfield 61, 3, 0, 2, 1, 2), (175, .aload 4, 2, 0, 0, 0, 0), (177, .getfield 67, 3, 0, 2, 2, 2), (180, .invokevirtual 83, 3, 0, 54, 2, 302), (183, .aload_n 0, 1, 0, 0, 0, 0), (184, .getfield 27, 3, 0, 6, 4, 1), (187, .invokevirtual 51, 3, 0, 76, 0, 412), (190, .ireturn, 1, 1, 1, 0, 0)]
def am_m81 : am_M := (yX6_congruent, cX6_congruent, 6, (some .boolean), am_r81)
def am_r82 : List am_I := [(0, .aload_n 0, 1, 0, 0, 0, 0), (1, .iload_n 2, 1, 0, 0, 0, 0), (2, .invokevirtual 57, 3, 0, 95, 1, 622), (5, .astore_n 3, 1, 0, 0, 0, 0), (6, .aload_n 3, 1, 0, 0, 0, 0), (7, .ifnull 14, 3, 0, 21, 0, 0), (10, .aload_n 0, 1, 0, 0, 0, 0), (11, .getfield 19, 3, 0, 6, 2, 1), (14, .iload_n 1, 1, 0, 0, 0, 0), (15, .invokevirtual 98, 3, 0, 34, 1, 112), (18, .ifCond .ne 5, 3, 0, 23, 0, 0), (21, .iconst 0, 1, 0, 0, 0, 0), (22, .ireturn, 1, 1, 1, 0, 0), (23, .aload_n 0, 1, 0, 0, 0, 0), (24, .getfield 19, 3, 0, 6, 2, 1), (27, .getfield 101, 3, 0, 1, 4, 3), (30, .iload_n 1, 1, 0, 0, 0, 0), (31, .iaload, 1, 0, 0, 0, 0), (32, .istore 4, 2, 0, 0, 0, 0), (34, .aload_n 0, 1, 0, 0, 0, 0), (35, .getfield 19, 3, 0, 6, 2, 1), (38, .getfield 37, 3, 0, 1, 5, 3), (41, .iload_n 1, 1, 0, 0, 0, 0), (42, .iaload, 1, 0, 0, 0, 0), (43, .istore 5, 2, 0, 0, 0, 0), (45, .aload_n 0, 1, 0, 0, 0, 0), (46, .getfield 23, 3, 0, 6, 3, 1), (49, .getfield 104, 3, 0, 3, 4, 3), (52, .aload_n 0, 1, 0, 0, 0, 0), (53, .getfield 27, 3, 0, 6, 4, 1), (56, .getfield 107, 3, 0, 4, 5, 3), (59, .iload_n 2, 1, 0, 0, 0, 0), (60, .iaload, 1, 0, 0, 0, 0), (61, .iaload, 1, 0, 0, 0, 0), (62, .istore 6, 2, 0, 0, 0, 0), (64, .aload_n 0, 1, 0, 0, 0, 0), (65, .getfield 23, 3, 0, 6, 3, 1), (68, .getfield 104, 3, 0, 3, 4, 3), (71, .aload_n 0, 1, 0, 0, 0, 0), (72, .getfield 27, 3, 0, 6, 4, 1), (75, .iload_n 2, 1, 0, 0, 0, 0), (76, .invokevirtual 110, 3, 0, 69, 1, 412), (79, .iaload, 1, 0, 0, 0, 0), (80, .istore 7, 2, 0, 0, 0, 0), (82, .aload_n 0, 1, 0, 0, 0, 0), (83, .getfield 23, 3, 0, 6, 3, 1), (86, .iload 6, 2, 0, 0, 0, 0), (88, .iload 7, 2, 0, 0, 0, 0), (90, .iload 4, 2, 0, 0, 0, 0), (92, .iload 5, 2, 0, 0, 0, 0), (94, .invokevirtual 114, 3, 0, 64, 4, 312), (97, .ifCond .eq 5, 3, 0, 102, 0, 0), (100, .iconst 0, 1, 0, 0, 0, 0), (101, .ireturn, 1, 1, 1, 0, 0), (102, .aload_n 0, 1, 0, 0, 0, 0), (103, .getfield 9, 3, 0, 6, 0, 1), (106, .iconst 2, 1, 0, 0, 0, 0), (107, .iload 5, 2, 0, 0, 0, 0), (109, .aload_n 3, 1, 0, 0, 0, 0), (110, .getfield 81, 3, 0, 2, 3, 2), (113, .invokevirtual 117, 3, 0, 3, 3, 712), (116, .istore 8, 2, 0, 0, 0, 0), (118, .aload_n 0, 1, 0, 0, 0, 0), (119, .getfield 27, 3, 0, 6, 4, 1), (122, .iload_n 2, 1, 0, 0, 0, 0), (123, .iconst (-1), 1, 0, 0, 0, 0), (124, .invokevirtual 77, 3, 0, 74, 2, 402), (127, .aload_n 0, 1, 0, 0, 0, 0), (128, .getfield 23, 3, 0, 6, 3, 1), (131, .iload 8, 2, 0, 0, 0, 0), (133, .invokevirtual 41, 3, 0, 52, 1, 302), (136, .aload_n 0, 1, 0, 0, 0, 0), (137, .getfield 23, 3, 0, 6, 3, 1), (140, .bipush (-2), 2, 0, 0, 0, 0), (142, .iload 8, 2, 0, 0, 0, 0), (144, .invokevirtual 95, 3, 0, 51, 2, 302), (147, .aload_n 0, 1, 0, 0, 0, 0), (148, .getfield 23, 3, 0, 6, 3, 1), (151, .aload_n 3, 1, 0, 0, 0, 0), (152, .getfield 70, 3, 0, 2, 0, 2), (155, .aload_n 3, 1, 0, 0, 0, 0), (156, .getfield 61, 3, 0, 2, 1, 2), (159, .iconst 1, 1, 0, 0, 0, 0), (160, .iload 4, 2, 0, 0, 0, 0), (162, .iload 5, 2, 0, 0, 0, 0), (164, .invokevirtual 121, 3, 0, 56, 5, 302), (167, .aload_n 0, 1, 0, 0, 0, 0), (168, .getfield 23, 3, 0, 6, 3, 1), (171, .bipush (-2), 2, 0, 0, 0, 0), (173, .iload 8, 2, 0, 0, 0, 0), (175, .invokevirtual 95, 3, 0, 51, 2, 302), (178, .aload_n 0, 1, 0, 0, 0, 0), (179, .getfield 23, 3, 0, 6, 3, 1), (182, .aload_n 3, 1, 0, 0, 0, 0), (183, .getfield 61, 3, 0, 2, 1, 2), (186, .aload_n 3, 1, 0, 0, 0, 0), (187, .getfield 67, 3, 0, 2, 2, 2), (190, .iconst 1, 1, 0, 0, 0, 0), (191, .iload 4, 2, 0, 0, 0, 0), (193, .iload 5, 2, 0, 0, 0, 0), (195, .invokevirtual 121, 3, 0, 56, 5, 302), (198, .aload_n 0, 1, 0, 0, 0, 0), (199, .getfield 27, 3, 0, 6, 4, 1), (202, .invokevirtual 51, 3, 0, 76, 0, 412), (205, .ireturn, 1, 1, 1, 0, 0)]
def am_m82 : am_M := (yX6_abstracted, cX6_abstracted, 9, (some .boolean), am_r82)
def am_r83 : List am_I := [(0, .aload_n 0, 1, 0, 0, 0, 0), (1, .getfield 19, 3, 0, 6, 2, 1), (4, .iload_n 1, 1, 0, 0, 0, 0), (5, .invokevirtual 31, 3, 0, 33, 1, 112), (8, .ifCond .eq 16, 3, 0, 24, 0, 0), (11, .aload_n 0, 1, 0, 0, 0, 0), (12, .getfield 19, 3, 0, 6, 2, 1), (15, .getfield 101, 3, 0, 1, 4, 3), (18, .iload_n 1, 1, 0, 0, 0, 0), (19, .iaload, 1, 0, 0, 0, 0), (20, .iconst (-1), 1, 0, 0, 0, 0), (21, .if_icmp .eq 5, 3, 0, 26, 0, 0), (24, .iconst 0, 1, 0, 0, 0, 0), (25, .ireturn, 1, 1, 1, 0, 0), (26, .aload_n 0, 1, 0, 0, 0, 0), (27, .getfield 19, 3, 0, 6, 2, 1), (30, .getfield 125, 3, 0, 1, 6, 3), (33, .iload_n 1, 1, 0, 0, 0, 0), (34, .iaload, 1, 0, 0, 0, 0), (35, .istore_n 2, 1, 0, 0, 0, 0), (36, .aload_n 0, 1, 0, 0, 0, 0), (37, .getfield 19, 3, 0, 6, 2, 1), (40, .getfield 126, 3, 0, 1, 7, 3), (43, .iload_n 1, 1, 0, 0, 0, 0), (44, .iaload, 1, 0, 0, 0, 0), (45, .istore_n 3, 1, 0, 0, 0, 0), (46, .aload_n 0, 1, 0, 0, 0, 0), (47, .getfield 19, 3, 0, 6, 2, 1), (50, .getfield 101, 3, 0, 1, 4, 3), (53, .iload_n 2, 1, 0, 0, 0, 0), (54, .iaload, 1, 0, 0, 0, 0), (55, .bipush (-2), 2, 0, 0, 0, 0), (57, .if_icmp .ne 14, 3, 0, 71, 0, 0), (60, .aload_n 0, 1, 0, 0, 0, 0), (61, .getfield 19, 3, 0, 6, 2, 1), (64, .iload_n 3, 1, 0, 0, 0, 0), (65, .invokevirtual 98, 3, 0, 34, 1, 112), (68, .ifCond .ne 5, 3, 0, 73, 0, 0), (71, .iconst 0, 1, 0, 0, 0, 0), (72, .ireturn, 1, 1, 1, 0, 0), (73, .aload_n 0, 1, 0, 0, 0, 0), (74, .getfield 23, 3, 0, 6, 3, 1), (77, .aload_n 0, 1, 0, 0, 0, 0), (78, .getfield 19, 3, 0, 6, 2, 1), (81, .getfield 37, 3, 0, 1, 5, 3), (84, .iload_n 1, 1, 0, 0, 0, 0), (85, .iaload, 1, 0, 0, 0, 0), (86, .invokevirtual 41, 3, 0, 52, 1, 302), (89, .aload_n 0, 1, 0, 0, 0, 0), (90, .getfield 23, 3, 0, 6, 3, 1), (93, .getfield 127, 3, 0, 3, 3, 2), (96, .istore 4, 2, 0, 0, 0, 0), (98, .aload_n 0, 1, 0, 0, 0, 0), (99, .getfield 19, 3, 0, 6, 2, 1), (102, .aload_n 0, 1, 0, 0, 0, 0), (103, .getfield 23, 3, 0, 6, 3, 1), (106, .iload_n 1, 1, 0, 0, 0, 0), (107, .invokevirtual 47, 3, 0, 47, 2, 102), (110, .aload_n 0, 1, 0, 0, 0, 0), (111, .getfield 23, 3, 0, 6, 3, 1), (114, .getfield 130, 3, 0, 3, 6, 2), (117, .ifCond .eq 5, 3, 0, 122, 0, 0), (120, .iconst 0, 1, 0, 0, 0, 0), (121, .ireturn, 1, 1, 1, 0, 0), (122, .aload_n 0, 1, 0, 0, 0, 0), (123, .getfield 23, 3, 0, 6, 3, 1), (126, .iload 4, 2, 0, 0, 0, 0), (128, .iconst 2, 1, 0, 0, 0, 0), (129, .iadd, 1, 0, 0, 0, 0), (130, .aload_n 0, 1, 0, 0, 0, 0), (131, .getfield 23, 3, 0, 6, 3, 1), (134, .getfield 127, 3, 0, 3, 3, 2), (137, .iconst 1, 1, 0, 0, 0, 0), (138, .isub, 1, 0, 0, 0, 0), (139, .iconst 0, 1, 0, 0, 0, 0), (140, .aload_n 0, 1, 0, 0, 0, 0), (141, .getfield 19, 3, 0, 6, 2, 1), (144, .getfield 101, 3, 0, 1, 4, 3), (147, .iload_n 3, 1, 0, 0, 0, 0), (148, .iaload, 1, 0, 0, 0, 0), (149, .aload_n 0, 1, 0, 0, 0, 0), (150, .getfield 19, 3, 0, 6, 2, 1), (153, .getfield 37, 3, 0, 1, 5, 3), (156, .iload_n 3, 1, 0, 0, 0, 0), (157, .iaload, 1, 0, 0, 0, 0), (158, .invokevirtual 121, 3, 0, 56, 5, 302), (161, .aload_n 0, 1, 0, 0, 0, 0), (162, .getfield 27, 3, 0, 6, 4, 1), (165, .invokevirtual 51, 3, 0, 76, 0, 412), (168, .ireturn, 1, 1, 1, 0, 0)]
def am_m83 : am_M := (yX6_reduced, cX6_reduced, 5, (some .boolean), am_r83)
def am_r84 : List am_I := [(0, .aload_n 0, 1, 0, 0, 0, 0), (1, .getfield 19, 3, 0, 6, 2, 1), (4, .iload_n 1, 1, 0, 0, 0, 0), (5, .invokevirtual 31, 3, 0, 33, 1, 112), (8, .ifCond .eq 16, 3, 0, 24, 0, 0), (11, .aload_n 0, 1, 0, 0, 0, 0), (12, .getfield 19, 3, 0, 6, 2, 1), (15, .getfield 37, 3, 0, 1, 5, 3), (18, .iload_n 1, 1, 0, 0, 0, 0), (19, .iaload, 1, 0, 0, 0, 0), (20, .iconst 1, 1, 0, 0, 0, 0), (21, .if_icmp .eq 5, 3, 0, 26, 0, 0), (24, .iconst 0, 1, 0, 0, 0, 0), (25, .ireturn, 1, 1, 1, 0, 0), (26, .aload_n 0, 1, 0, 0, 0, 0), (27, .getfield 19, 3, 0, 6, 2, 1), (30, .aload_n 0, 1, 0, 0, 0, 0), (31, .getfield 23, 3, 0, 6, 3, 1), (34, .iload_n 1, 1, 0, 0, 0, 0), (35, .invokevirtual 47, 3, 0, 47, 2, 102), (38, .aload_n 0, 1, 0, 0, 0, 0), (39, .getfield 27, 3, 0, 6, 4, 1), (42, .invokevirtual 134, 3, 0, 75, 0, 402), (45, .aload_n 0, 1, 0, 0, 0, 0), (46, .getfield 19, 3, 0, 6, 2, 1), (49, .aload_n 0, 1, 0, 0, 0, 0), (50, .getfield 23, 3, 0, 6, 3, 1), (53, .iload_n 1, 1, 0, 0, 0, 0), (54, .invokevirtual 47, 3, 0, 47, 2, 102), (57, .aload_n 0, 1, 0, 0, 0, 0), (58, .getfield 27, 3, 0, 6, 4, 1), (61, .invokevirtual 51, 3, 0, 76, 0, 412), (64, .ireturn, 1, 1, 1, 0, 0)]
def am_m84 : am_M := (yX6_assumed, cX6_assumed, 2, (some .boolean), am_r84)
def am_r85 : List am_I := [(0, .aload_n 0, 1, 0, 0, 0, 0), (1, .iload_n 1, 1, 0, 0, 0, 0), (2, .invokevirtual 57, 3, 0, 95, 1, 622), (5, .astore_n 3, 1, 0, 0, 0, 0), (6, .aload_n 3, 1, 0, 0, 0, 0), (7, .ifnull 14, 3, 0, 21, 0, 0), (10, .aload_n 0, 1, 0, 0, 0, 0), (11, .getfield 27, 3, 0, 6, 4, 1), (14, .iload_n 2, 1, 0, 0, 0, 0), (15, .invokevirtual 137, 3, 0, 68, 1, 412), (18, .ifCond .ne 5, 3, 0, 23, 0, 0), (21, .iconst 0, 1, 0, 0, 0, 0), (22, .ireturn, 1, 1, 1, 0, 0), (23, .aload_n 0, 1, 0, 0, 0, 0), (24, .getfield 27, 3, 0, 6, 4, 1), (27, .iload_n 2, 1, 0, 0, 0, 0), (28, .invokevirtual 110, 3, 0, 69, 1, 412), (31, .istore 4, 2, 0, 0, 0, 0), (33, .aload_n 0, 1, 0, 0, 0, 0), (34, .getfield 23, 3, 0, 6, 3, 1), (37, .aload_n 3, 1, 0, 0, 0, 0), (38, .getfield 70, 3, 0, 2, 0, 2), (41, .aload_n 3, 1, 0, 0, 0, 0), (42, .getfield 61, 3, 0, 2, 1, 2), (45, .aload_n 0, 1, 0, 0, 0, 0), (46, .getfield 23, 3, 0, 6, 3, 1), (49, .getfield 104, 3, 0, 3, 4, 3), (52, .iload 4, 2, 0, 0, 0, 0), (54, .iaload, 1, 0, 0, 0, 0), (55, .aload_n 0, 1, 0, 0, 0, 0), (56, .getfield 23, 3, 0, 6, 3, 1), (59, .getfield 104, 3, 0, 3, 4, 3), (62, .iload 4, 2, 0, 0, 0, 0), (64, .iconst 1, 1, 0, 0, 0, 0), (65, .iadd, 1, 0, 0, 0, 0), (66, .iaload, 1, 0, 0, 0, 0), (67, .invokevirtual 73, 3, 0, 60, 4, 312), (70, .ifCond .ne 5, 3, 0, 75, 0, 0), (73, .iconst 0, 1, 0, 0, 0, 0), (74, .ireturn, 1, 1, 1, 0, 0), (75, .aload_n 0, 1, 0, 0, 0, 0), (76, .getfield 27, 3, 0, 6, 4, 1), (79, .iload_n 1, 1, 0, 0, 0, 0), (80, .iconst (-1), 1, 0, 0, 0, 0), (81, .invokevirtual 77, 3, 0, 74, 2, 402), (84, .aload_n 0, 1, 0, 0, 0, 0), (85, .getfield 27, 3, 0, 6, 4, 1), (88, .iload_n 2, 1, 0, 0, 0, 0), (89, .iconst (-1), 1, 0, 0, 0, 0), (90, .invokevirtual 77, 3, 0, 74, 2, 402), (93, .aload_n 0, 1, 0, 0, 0, 0), (94, .getfield 23, 3, 0, 6, 3, 1), (97, .aload_n 3, 1, 0, 0, 0, 0), (98, .getfield 61, 3, 0, 2, 1, 2), (101, .aload_n 3, 1, 0, 0, 0, 0), (102, .getfield 67, 3, 0, 2, 2, 2), (105, .invokevirtual 83, 3, 0, 54, 2, 302), (108, .aload_n 0, 1, 0, 0, 0, 0), (109, .getfield 27, 3, 0, 6, 4, 1), (112, .invokevirtual 51, 3, 0, 76, 0, 412), (115, .ireturn, 1, 1, 1, 0, 0)]
def am_m85 : am_M := (yX6_replaced, cX6_replaced, 5, (some .boolean), am_r85)
def am_r86 : List am_I := [(0, .aload_n 0, 1, 0, 0, 0, 0), (1, .getfield 27, 3, 0, 6, 4, 1), (4, .iload_n 1, 1, 0, 0, 0, 0), (5, .invokevirtual 137, 3, 0, 68, 1, 412), (8, .ifCond .eq 14, 3, 0, 22, 0, 0), (11, .aload_n 0, 1, 0, 0, 0, 0), (12, .getfield 27, 3, 0, 6, 4, 1), (15, .iload_n 2, 1, 0, 0, 0, 0), (16, .invokevirtual 137, 3, 0, 68, 1, 412), (19, .ifCond .ne 5, 3, 0, 24, 0, 0), (22, .iconst 0, 1, 0, 0, 0, 0), (23, .ireturn, 1, 1, 1, 0, 0), (24, .aload_n 0, 1, 0, 0, 0, 0), (25, .getfield 27, 3, 0, 6, 4, 1), (28, .iload_n 1, 1, 0, 0, 0, 0), (29, .invokevirtual 110, 3, 0, 69, 1, 412), (32, .istore_n 3, 1, 0, 0, 0, 0), (33, .aload_n 0, 1, 0, 0, 0, 0), (34, .getfield 27, 3, 0, 6, 4, 1), (37, .iload_n 2, 1, 0, 0, 0, 0), (38, .invokevirtual 110, 3, 0, 69, 1, 412), (41, .istore 4, 2, 0, 0, 0, 0), (43, .aload_n 0, 1, 0, 0, 0, 0), (44, .getfield 27, 3, 0, 6, 4, 1), (47, .iload_n 1, 1, 0, 0, 0, 0), (48, .iload 4, 2, 0, 0, 0, 0), (50, .invokevirtual 77, 3, 0, 74, 2, 402), (53, .aload_n 0, 1, 0, 0, 0, 0), (54, .getfield 27, 3, 0, 6, 4, 1), (57, .iload_n 2, 1, 0, 0, 0, 0), (58, .iload_n 3, 1, 0, 0, 0, 0), (59, .invokevirtual 77, 3, 0, 74, 2, 402), (62, .aload_n 0, 1, 0, 0, 0, 0), (63, .getfield 23, 3, 0, 6, 3, 1), (66, .iconst 1, 1, 0, 0, 0, 0), (67, .invokevirtual 41, 3, 0, 52, 1, 302), (70, .aload_n 0, 1, 0, 0, 0, 0), (71, .getfield 23, 3, 0, 6, 3, 1), (74, .aload_n 0, 1, 0, 0, 0, 0), (75, .getfield 23, 3, 0, 6, 3, 1), (78, .getfield 104, 3, 0, 3, 4, 3), (81, .iload_n 3, 1, 0, 0, 0, 0), (82, .iaload, 1, 0, 0, 0, 0), (83, .aload_n 0, 1, 0, 0, 0, 0), (84, .getfield 23, 3, 0, 6, 3, 1), (87, .getfield 104, 3, 0, 3, 4, 3), (90, .iload_n 3, 1, 0, 0, 0, 0), (91, .iconst 1, 1, 0, 0, 0, 0), (92, .iadd, 1, 0, 0, 0, 0), (93, .iaload, 1, 0, 0, 0, 0), (94, .invokevirtual 83, 3, 0, 54, 2, 302), (97, .aload_n 0, 1, 0, 0, 0, 0), (98, .getfield 23, 3, 0, 6, 3, 1), (101, .aload_n 0, 1, 0, 0, 0, 0), (102, .getfield 23, 3, 0, 6, 3, 1), (105, .getfield 104, 3, 0, 3, 4, 3), (108, .iload 4, 2, 0, 0, 0, 0), (110, .iaload, 1, 0, 0, 0, 0), (111, .aload_n 0, 1, 0, 0, 0, 0), (112, .getfield 23, 3, 0, 6, 3, 1), (115, .getfield 104, 3, 0, 3, 4, 3), (118, .iload 4, 2, 0, 0, 0, 0), (120, .iconst 1, 1, 0, 0, 0, 0), (121, .iadd, 1, 0, 0, 0, 0), (122, .iaload, 1, 0, 0, 0, 0), (123, .invokevirtual 83, 3, 0, 54, 2, 302), (126, .aload_n 0, 1, 0, 0, 0, 0), (127, .getfield 27, 3, 0, 6, 4, 1), (130, .invokevirtual 51, 3, 0, 76, 0, 412), (133, .ireturn, 1, 1, 1, 0, 0)]
def am_m86 : am_M := (yX6_equivalent, cX6_equivalent, 5, (some .boolean), am_r86)
def am_r87 : List am_I := [(0, .aload_n 0, 1, 0, 0, 0, 0), (1, .getfield 27, 3, 0, 6, 4, 1), (4, .iload_n 1, 1, 0, 0, 0, 0), (5, .invokevirtual 137, 3, 0, 68, 1, 412), (8, .ifCond .eq 46, 3, 0, 54, 0, 0), (11, .aload_n 0, 1, 0, 0, 0, 0), (12, .getfield 19, 3, 0, 6, 2, 1), (15, .iload_n 2, 1, 0, 0, 0, 0), (16, .invokevirtual 98, 3, 0, 34, 1, 112), (19, .ifCond .eq 35, 3, 0, 54, 0, 0), (22, .aload_n 0, 1, 0, 0, 0, 0), (23, .getfield 19, 3, 0, 6, 2, 1), (26, .iload_n 3, 1, 0, 0, 0, 0), (27, .invokevirtual 31, 3, 0, 33, 1, 112), (30, .ifCond .eq 24, 3, 0, 54, 0, 0), (33, .aload_n 0, 1, 0, 0, 0, 0), (34, .getfield 19, 3, 0, 6, 2, 1), (37, .getfield 37, 3, 0, 1, 5, 3), (40, .iload_n 2, 1, 0, 0, 0, 0), (41, .iaload, 1, 0, 0, 0, 0), (42, .aload_n 0, 1, 0, 0, 0, 0), (43, .getfield 19, 3, 0, 6, 2, 1), (46, .getfield 37, 3, 0, 1, 5, 3), (49, .iload_n 3, 1, 0, 0, 0, 0), (50, .iaload, 1, 0, 0, 0, 0), (51, .if_icmp .eq 5, 3, 0, 56, 0, 0), (54, .iconst 0, 1, 0, 0, 0, 0), (55, .ireturn, 1, 1, 1, 0, 0), (56, .aload_n 0, 1, 0, 0, 0, 0), (57, .getfield 27, 3, 0, 6, 4, 1), (60, .iload_n 1, 1, 0, 0, 0, 0), (61, .invokevirtual 110, 3, 0, 69, 1, 412), (64, .istore 4, 2, 0, 0, 0, 0), (66, .aload_n 0, 1, 0, 0, 0, 0), (67, .getfield 27, 3, 0, 6, 4, 1), (70, .getfield 107, 3, 0, 4, 5, 3), (73, .iload_n 1, 1, 0, 0, 0, 0), (74, .iaload, 1, 0, 0, 0, 0), (75, .istore 5, 2, 0, 0, 0, 0), (77, .iload 5, 2, 63, 0, 0, 0), (79, .iload 4, 2, 0, 0, 0, 0), (81, .if_icmp .ge 34, 3, 0, 115, 0, 0), (84, .aload_n 0, 1, 0, 0, 0, 0), (85, .getfield 23, 3, 0, 6, 3, 1), (88, .getfield 130, 3, 0, 3, 6, 2), (91, .ifCond .ne 24, 3, 0, 115, 0, 0), (94, .aload_n 0, 1, 0, 0, 0, 0), (95, .iload 5, 2, 0, 0, 0, 0), (97, .iload_n 2, 1, 0, 0, 0, 0), (98, .iload_n 3, 1, 0, 0, 0, 0), (99, .invokevirtual 140, 3, 0, 88, 3, 602), (102, .aload_n 0, 1, 0, 0, 0, 0), (103, .getfield 27, 3, 0, 6, 4, 1), (106, .invokevirtual 134, 3, 0, 75, 0, 402), (109, .iinc 5 1, 3, 0, 0, 0, 0), (112, .goto (-35), 3, 0, 77, 0, 0), (115, .aload_n 0, 1, 0, 0, 0, 0), (116, .iload 4, 2, 0, 0, 0, 0), (118, .iload_n 2, 1, 0, 0, 0, 0), (119, .iload_n 3, 1, 0, 0, 0, 0), (120, .invokevirtual 140, 3, 0, 88, 3, 602), (123, .aload_n 0, 1, 0, 0, 0, 0), (124, .getfield 27, 3, 0, 6, 4, 1), (127, .invokevirtual 51, 3, 0, 76, 0, 412), (130, .ireturn, 1, 1, 1, 0, 0)]
def am_m87 : am_M := (yX6_termPutIn, cX6_termPutIn, 6, (some .boolean), am_r87)
def am_r88 : List am_I := [(0, .aload_n 0, 1, 0, 0, 0, 0), (1, .getfield 23, 3, 0, 6, 3, 1), (4, .getfield 104, 3, 0, 3, 4, 3), (7, .iload_n 1, 1, 0, 0, 0, 0), (8, .iconst 1, 1, 0, 0, 0, 0), (9, .iadd, 1, 0, 0, 0, 0), (10, .iaload, 1, 0, 0, 0, 0), (11, .istore 4, 2, 0, 0, 0, 0), (13, .aload_n 0, 1, 0, 0, 0, 0), (14, .getfield 23, 3, 0, 6, 3, 1), (17, .getfield 104, 3, 0, 3, 4, 3), (20, .iload_n 1, 1, 0, 0, 0, 0), (21, .iaload, 1, 0, 0, 0, 0), (22, .istore 5, 2, 0, 0, 0, 0), (24, .iload 5, 2, 63, 0, 0, 0), (26, .iload 4, 2, 0, 0, 0, 0), (28, .if_icmp .ge 105, 3, 0, 133, 0, 0), (31, .aload_n 0, 1, 0, 0, 0, 0), (32, .getfield 23, 3, 0, 6, 3, 1), (35, .getfield 130, 3, 0, 3, 6, 2), (38, .ifCond .ne 95, 3, 0, 133, 0, 0), (41, .aload_n 0, 1, 0, 0, 0, 0), (42, .getfield 23, 3, 0, 6, 3, 1), (45, .getfield 144, 3, 0, 3, 1, 3), (48, .iload 5, 2, 0, 0, 0, 0), (50, .iaload, 1, 0, 0, 0, 0), (51, .aload_n 0, 1, 0, 0, 0, 0), (52, .getfield 19, 3, 0, 6, 2, 1), (55, .getfield 101, 3, 0, 1, 4, 3), (58, .iload_n 2, 1, 0, 0, 0, 0), (59, .iaload, 1, 0, 0, 0, 0), (60, .if_icmp .ne 40, 3, 0, 100, 0, 0), (63, .aload_n 0, 1, 0, 0, 0, 0), (64, .getfield 23, 3, 0, 6, 3, 1), (67, .getfield 145, 3, 0, 3, 2, 3), (70, .iload 5, 2, 0, 0, 0, 0), (72, .iaload, 1, 0, 0, 0, 0), (73, .aload_n 0, 1, 0, 0, 0, 0), (74, .getfield 19, 3, 0, 6, 2, 1), (77, .getfield 37, 3, 0, 1, 5, 3), (80, .iload_n 2, 1, 0, 0, 0, 0), (81, .iaload, 1, 0, 0, 0, 0), (82, .if_icmp .ne 18, 3, 0, 100, 0, 0), (85, .aload_n 0, 1, 0, 0, 0, 0), (86, .getfield 19, 3, 0, 6, 2, 1), (89, .aload_n 0, 1, 0, 0, 0, 0), (90, .getfield 23, 3, 0, 6, 3, 1), (93, .iload_n 3, 1, 0, 0, 0, 0), (94, .invokevirtual 47, 3, 0, 47, 2, 102), (97, .goto 30, 3, 0, 127, 0, 0), (100, .aload_n 0, 1, 0, 0, 0, 0), (101, .getfield 23, 3, 0, 6, 3, 1), (104, .aload_n 0, 1, 0, 0, 0, 0), (105, .getfield 23, 3, 0, 6, 3, 1), (108, .getfield 144, 3, 0, 3, 1, 3), (111, .iload 5, 2, 0, 0, 0, 0), (113, .iaload, 1, 0, 0, 0, 0), (114, .aload_n 0, 1, 0, 0, 0, 0), (115, .getfield 23, 3, 0, 6, 3, 1), (118, .getfield 145, 3, 0, 3, 2, 3), (121, .iload 5, 2, 0, 0, 0, 0), (123, .iaload, 1, 0, 0, 0, 0), (124, .invokevirtual 95, 3, 0, 51, 2, 302), (127, .iinc 5 1, 3, 0, 0, 0, 0), (130, .goto (-106), 3, 0, 24, 0, 0), (133, .return_, 1, 1, 0, 0, 0)]
def am_m88 : am_M := (yX6_copyWith, cX6_copyWith, 6, none, am_r88)
def am_r89 : List am_I := [(0, .aload_n 0, 1, 0, 0, 0, 0), (1, .getfield 27, 3, 0, 6, 4, 1), (4, .iload_n 1, 1, 0, 0, 0, 0), (5, .invokevirtual 137, 3, 0, 68, 1, 412), (8, .ifCond .ne 5, 3, 0, 13, 0, 0), (11, .iconst 0, 1, 0, 0, 0, 0), (12, .ireturn, 1, 1, 1, 0, 0), (13, .aload_n 0, 1, 0, 0, 0, 0), (14, .getfield 27, 3, 0, 6, 4, 1), (17, .iload_n 1, 1, 0, 0, 0, 0), (18, .invokevirtual 110, 3, 0, 69, 1, 412), (21, .istore 5, 2, 0, 0, 0, 0), (23, .aload_n 0, 1, 0, 0, 0, 0), (24, .getfield 9, 3, 0, 6, 0, 1), (27, .invokevirtual 146, 3, 0, 11, 0, 702), (30, .aload_n 0, 1, 0, 0, 0, 0), (31, .getfield 23, 3, 0, 6, 3, 1), (34, .aload_n 0, 1, 0, 0, 0, 0), (35, .getfield 23, 3, 0, 6, 3, 1), (38, .getfield 104, 3, 0, 3, 4, 3), (41, .aload_n 0, 1, 0, 0, 0, 0), (42, .getfield 27, 3, 0, 6, 4, 1), (45, .getfield 107, 3, 0, 4, 5, 3), (48, .iload_n 1, 1, 0, 0, 0, 0), (49, .iaload, 1, 0, 0, 0, 0), (50, .iaload, 1, 0, 0, 0, 0), (51, .aload_n 0, 1, 0, 0, 0, 0), (52, .getfield 23, 3, 0, 6, 3, 1), (55, .getfield 104, 3, 0, 3, 4, 3), (58, .iload 5, 2, 0, 0, 0, 0), (60, .iconst 1, 1, 0, 0, 0, 0), (61, .iadd, 1, 0, 0, 0, 0), (62, .iaload, 1, 0, 0, 0, 0), (63, .invokevirtual 149, 3, 0, 66, 2, 302), (66, .aload_n 0, 1, 0, 0, 0, 0), (67, .getfield 9, 3, 0, 6, 0, 1), (70, .invokevirtual 152, 3, 0, 13, 0, 702), (73, .iconst 0, 1, 0, 0, 0, 0), (74, .istore 6, 2, 0, 0, 0, 0), (76, .iload 6, 2, 129, 0, 0, 0), (78, .iload 4, 2, 0, 0, 0, 0), (80, .if_icmp .ge 84, 3, 0, 164, 0, 0), (83, .aload_n 2, 1, 0, 0, 0, 0), (84, .iload_n 3, 1, 0, 0, 0, 0), (85, .iconst 2, 1, 0, 0, 0, 0), (86, .iload 6, 2, 0, 0, 0, 0), (88, .imul, 1, 0, 0, 0, 0), (89, .iadd, 1, 0, 0, 0, 0), (90, .iaload, 1, 0, 0, 0, 0), (91, .istore 7, 2, 0, 0, 0, 0), (93, .aload_n 2, 1, 0, 0, 0, 0), (94, .iload_n 3, 1, 0, 0, 0, 0), (95, .iconst 2, 1, 0, 0, 0, 0), (96, .iload 6, 2, 0, 0, 0, 0), (98, .imul, 1, 0, 0, 0, 0), (99, .iadd, 1, 0, 0, 0, 0), (100, .iconst 1, 1, 0, 0, 0, 0), (101, .iadd, 1, 0, 0, 0, 0), (102, .iaload, 1, 0, 0, 0, 0), (103, .istore 8, 2, 0, 0, 0, 0), (105, .iload 7, 2, 0, 0, 0, 0), (107, .invokestatic 155, 3, 0, 120, 1, 14), (110, .ifCond .eq 27, 3, 0, 137, 0, 0), (113, .aload_n 0, 1, 0, 0, 0, 0), (114, .getfield 19, 3, 0, 6, 2, 1), (117, .iload 8, 2, 0, 0, 0, 0), (119, .invokevirtual 158, 3, 0, 31, 1, 112), (122, .ifCond .eq 15, 3, 0, 137, 0, 0), (125, .aload_n 2, 1, 0, 0, 0, 0), (126, .iload_n 3, 1, 0, 0, 0, 0), (127, .iload 6, 2, 0, 0, 0, 0), (129, .iload 7, 2, 0, 0, 0, 0), (131, .invokestatic 161, 3, 0, 90, 4, 13), (134, .ifCond .eq 5, 3, 0, 139, 0, 0), (137, .iconst 0, 1, 0, 0, 0, 0), (138, .ireturn, 1, 1, 1, 0, 0), (139, .aload_n 0, 1, 0, 0, 0, 0), (140, .getfield 9, 3, 0, 6, 0, 1), (143, .iload 7, 2, 0, 0, 0, 0), (145, .aload_n 0, 1, 0, 0, 0, 0), (146, .getfield 19, 3, 0, 6, 2, 1), (149, .getfield 165, 3, 0, 1, 2, 3), (152, .iload 8, 2, 0, 0, 0, 0), (154, .iaload, 1, 0, 0, 0, 0), (155, .invokevirtual 168, 3, 0, 16, 2, 702), (158, .iinc 6 1, 3, 0, 0, 0, 0), (161, .goto (-85), 3, 0, 76, 0, 0), (164, .aload_n 0, 1, 0, 0, 0, 0), (165, .getfield 9, 3, 0, 6, 0, 1), (168, .invokevirtual 171, 3, 0, 17, 0, 712), (171, .ifCond .ne 5, 3, 0, 176, 0, 0), (174, .iconst 0, 1, 0, 0, 0, 0), (175, .ireturn, 1, 1, 1, 0, 0), (176, .aload_n 0, 1, 0, 0, 0, 0), (177, .getfield 27, 3, 0, 6, 4, 1), (180, .getfield 107, 3, 0, 4, 5, 3), (183, .iload_n 1, 1, 0, 0, 0, 0), (184, .iaload, 1, 0, 0, 0, 0), (185, .istore 6, 2, 0, 0, 0, 0), (187, .iload 6, 2, 99, 0, 0, 0), (189, .iload 5, 2, 0, 0, 0, 0), (191, .if_icmp .ge 55, 3, 0, 246, 0, 0), (194, .aload_n 0, 1, 0, 0, 0, 0), (195, .getfield 23, 3, 0, 6, 3, 1), (198, .getfield 130, 3, 0, 3, 6, 2), (201, .ifCond .ne 45, 3, 0, 246, 0, 0), (204, .aload_n 0, 1, 0, 0, 0, 0), (205, .getfield 23, 3, 0, 6, 3, 1), (208, .aload_n 0, 1, 0, 0, 0, 0), (209, .getfield 23, 3, 0, 6, 3, 1), (212, .getfield 104, 3, 0, 3, 4, 3), (215, .iload 6, 2, 0, 0, 0, 0), (217, .iaload, 1, 0, 0, 0, 0), (218, .aload_n 0, 1, 0, 0, 0, 0), (219, .getfield 23, 3, 0, 6, 3, 1), (222, .getfield 104, 3, 0, 3, 4, 3), (225, .iload 6, 2, 0, 0, 0, 0), (227, .iconst 1, 1, 0, 0, 0, 0), (228, .iadd, 1, 0, 0, 0, 0), (229, .iaload, 1, 0, 0, 0, 0), (230, .invokevirtual 174, 3, 0, 55, 2, 302), (233, .aload_n 0, 1, 0, 0, 0, 0), (234, .getfield 27, 3, 0, 6, 4, 1), (237, .invokevirtual 134, 3, 0, 75, 0, 402), (240, .iinc 6 1, 3, 0, 0, 0, 0), (243, .goto (-56), 3, 0, 187, 0, 0), (246, .aload_n 0, 1, 0, 0, 0, 0), (247, .getfield 23, 3, 0, 6, 3, 1), (250, .aload_n 0, 1, 0, 0, 0, 0), (251, .getfield 23, 3, 0, 6, 3, 1), (254, .getfield 104, 3, 0, 3, 4, 3), (257, .iload 5, 2, 0, 0, 0, 0), (259, .iaload, 1, 0, 0, 0, 0), (260, .aload_n 0, 1, 0, 0, 0, 0), (261, .getfield 23, 3, 0, 6, 3, 1), (264, .getfield 104, 3, 0, 3, 4, 3), (267, .iload 5, 2, 0, 0, 0, 0), (269, .iconst 1, 1, 0, 0, 0, 0), (270, .iadd, 1, 0, 0, 0, 0), (271, .iaload, 1, 0, 0, 0, 0), (272, .invokevirtual 174, 3, 0, 55, 2, 302), (275, .aload_n 0, 1, 0, 0, 0, 0), (276, .getfield 27, 3, 0, 6, 4, 1), (279, .invokevirtual 51, 3, 0, 76, 0, 412), (282, .ireturn, 1, 1, 1, 0, 0)]
def am_m89 : am_M := (yX6_typesPutIn, cX6_typesPutIn, 9, (some .boolean), am_r89)
def am_r90 : List am_I := [(0, .iconst 0, 1, 0, 0, 0, 0), (1, .istore 4, 2, 0, 0, 0, 0), (3, .iload 4, 2, 33, 0, 0, 0), (5, .iload_n 2, 1, 0, 0, 0, 0), (6, .if_icmp .ge 23, 3, 0, 29, 0, 0), (9, .aload_n 0, 1, 0, 0, 0, 0), (10, .iload_n 1, 1, 0, 0, 0, 0), (11, .iconst 2, 1, 0, 0, 0, 0), (12, .iload 4, 2, 0, 0, 0, 0), (14, .imul, 1, 0, 0, 0, 0), (15, .iadd, 1, 0, 0, 0, 0), (16, .iaload, 1, 0, 0, 0, 0), (17, .iload_n 3, 1, 0, 0, 0, 0), (18, .if_icmp .ne 5, 3, 0, 23, 0, 0), (21, .iconst 1, 1, 0, 0, 0, 0), (22, .ireturn, 1, 1, 1, 0, 0), (23, .iinc 4 1, 3, 0, 0, 0, 0), (26, .goto (-23), 3, 0, 3, 0, 0), (29, .iconst 0, 1, 0, 0, 0, 0), (30, .ireturn, 1, 1, 1, 0, 0)]
def am_m90 : am_M := (yX6_isAmongPairs, cX6_isAmongPairs, 5, (some .boolean), am_r90)
def am_r91 : List am_I := [(0, .aload_n 0, 1, 0, 0, 0, 0), (1, .getfield 19, 3, 0, 6, 2, 1), (4, .iload_n 1, 1, 0, 0, 0, 0), (5, .invokevirtual 31, 3, 0, 33, 1, 112), (8, .ifCond .ne 5, 3, 0, 13, 0, 0), (11, .iconst 0, 1, 0, 0, 0, 0), (12, .ireturn, 1, 1, 1, 0, 0), (13, .aload_n 0, 1, 0, 0, 0, 0), (14, .getfield 19, 3, 0, 6, 2, 1), (17, .getfield 37, 3, 0, 1, 5, 3), (20, .iload_n 1, 1, 0, 0, 0, 0), (21, .iaload, 1, 0, 0, 0, 0), (22, .istore_n 2, 1, 0, 0, 0, 0), (23, .aload_n 0, 1, 0, 0, 0, 0), (24, .getfield 15, 3, 0, 6, 1, 1), (27, .iload_n 2, 1, 0, 0, 0, 0), (28, .invokevirtual 177, 3, 0, 26, 1, 512), (31, .istore_n 3, 1, 0, 0, 0, 0), (32, .iload_n 3, 1, 0, 0, 0, 0), (33, .iconst (-1), 1, 0, 0, 0, 0), (34, .if_icmp .ne 5, 3, 0, 39, 0, 0), (37, .iconst 0, 1, 0, 0, 0, 0), (38, .ireturn, 1, 1, 1, 0, 0), (39, .aload_n 0, 1, 0, 0, 0, 0), (40, .getfield 23, 3, 0, 6, 3, 1), (43, .iload_n 2, 1, 0, 0, 0, 0), (44, .invokevirtual 41, 3, 0, 52, 1, 302), (47, .aload_n 0, 1, 0, 0, 0, 0), (48, .getfield 23, 3, 0, 6, 3, 1), (51, .iconst 4, 1, 0, 0, 0, 0), (52, .iload_n 3, 1, 0, 0, 0, 0), (53, .imul, 1, 0, 0, 0, 0), (54, .iconst 2, 1, 0, 0, 0, 0), (55, .iadd, 1, 0, 0, 0, 0), (56, .iload_n 2, 1, 0, 0, 0, 0), (57, .invokevirtual 95, 3, 0, 51, 2, 302), (60, .aload_n 0, 1, 0, 0, 0, 0), (61, .getfield 23, 3, 0, 6, 3, 1), (64, .getfield 127, 3, 0, 3, 3, 2), (67, .istore 4, 2, 0, 0, 0, 0), (69, .aload_n 0, 1, 0, 0, 0, 0), (70, .getfield 19, 3, 0, 6, 2, 1), (73, .aload_n 0, 1, 0, 0, 0, 0), (74, .getfield 23, 3, 0, 6, 3, 1), (77, .iload_n 1, 1, 0, 0, 0, 0), (78, .invokevirtual 47, 3, 0, 47, 2, 102), (81, .aload_n 0, 1, 0, 0, 0, 0), (82, .getfield 23, 3, 0, 6, 3, 1), (85, .getfield 130, 3, 0, 3, 6, 2), (88, .ifCond .ne 39, 3, 0, 127, 0, 0), (91, .aload_n 0, 1, 0, 0, 0, 0), (92, .getfield 23, 3, 0, 6, 3, 1), (95, .iload 4, 2, 0, 0, 0, 0), (97, .aload_n 0, 1, 0, 0, 0, 0), (98, .getfield 23, 3, 0, 6, 3, 1), (101, .getfield 127, 3, 0, 3, 3, 2), (104, .invokevirtual 182, 3, 0, 65, 2, 312), (107, .ifCond .ne 20, 3, 0, 127, 0, 0), (110, .aload_n 0, 1, 0, 0, 0, 0), (111, .iload 4, 2, 0, 0, 0, 0), (113, .aload_n 0, 1, 0, 0, 0, 0), (114, .getfield 23, 3, 0, 6, 3, 1), (117, .getfield 127, 3, 0, 3, 3, 2), (120, .iload_n 2, 1, 0, 0, 0, 0), (121, .invokevirtual 186, 3, 0, 92, 3, 612), (124, .ifCond .ne 5, 3, 0, 129, 0, 0), (127, .iconst 0, 1, 0, 0, 0, 0), (128, .ireturn, 1, 1, 1, 0, 0), (129, .aload_n 0, 1, 0, 0, 0, 0), (130, .getfield 27, 3, 0, 6, 4, 1), (133, .invokevirtual 190, 3, 0, 77, 0, 412), (136, .ireturn, 1, 1, 1, 0, 0)]
def am_m91 : am_M := (yX6_newConstant, cX6_newConstant, 5, (some .boolean), am_r91)
def am_r92 : List am_I := [(0, .aload_n 0, 1, 0, 0, 0, 0), (1, .getfield 9, 3, 0, 6, 0, 1), (4, .invokevirtual 146, 3, 0, 11, 0, 702), (7, .aload_n 0, 1, 0, 0, 0, 0), (8, .getfield 9, 3, 0, 6, 0, 1), (11, .iload_n 3, 1, 0, 0, 0, 0), (12, .invokevirtual 193, 3, 0, 12, 1, 702), (15, .aload_n 0, 1, 0, 0, 0, 0), (16, .getfield 9, 3, 0, 6, 0, 1), (19, .invokevirtual 152, 3, 0, 13, 0, 702), (22, .aload_n 0, 1, 0, 0, 0, 0), (23, .getfield 9, 3, 0, 6, 0, 1), (26, .invokevirtual 196, 3, 0, 14, 0, 712), (29, .istore 4, 2, 0, 0, 0, 0), (31, .aload_n 0, 1, 0, 0, 0, 0), (32, .getfield 9, 3, 0, 6, 0, 1), (35, .invokevirtual 146, 3, 0, 11, 0, 702), (38, .aload_n 0, 1, 0, 0, 0, 0), (39, .getfield 23, 3, 0, 6, 3, 1), (42, .iload_n 1, 1, 0, 0, 0, 0), (43, .iload_n 2, 1, 0, 0, 0, 0), (44, .invokevirtual 149, 3, 0, 66, 2, 302), (47, .aload_n 0, 1, 0, 0, 0, 0), (48, .getfield 9, 3, 0, 6, 0, 1), (51, .invokevirtual 152, 3, 0, 13, 0, 702), (54, .aload_n 0, 1, 0, 0, 0, 0), (55, .getfield 9, 3, 0, 6, 0, 1), (58, .invokevirtual 196, 3, 0, 14, 0, 712), (61, .iload 4, 2, 0, 0, 0, 0), (63, .if_icmp .ne 7, 3, 0, 70, 0, 0), (66, .iconst 1, 1, 0, 0, 0, 0), (67, .goto 4, 3, 0, 71, 0, 0), (70, .iconst 0, 1, 0, 0, 0, 0), (71, .ireturn, 1, 1, 1, 0, 0)]
def am_m92 : am_M := (yX6_hasVariablesOf, cX6_hasVariablesOf, 5, (some .boolean), am_r92)
def am_r93 : List am_I := [(0, .aload_n 0, 1, 0, 0, 0, 0), (1, .getfield 27, 3, 0, 6, 4, 1), (4, .iload_n 1, 1, 0, 0, 0, 0), (5, .invokevirtual 137, 3, 0, 68, 1, 412), (8, .ifCond .eq 14, 3, 0, 22, 0, 0), (11, .aload_n 0, 1, 0, 0, 0, 0), (12, .getfield 27, 3, 0, 6, 4, 1), (15, .iload_n 1, 1, 0, 0, 0, 0), (16, .invokevirtual 200, 3, 0, 70, 1, 412), (19, .ifCond .le 5, 3, 0, 24, 0, 0), (22, .iconst 0, 1, 0, 0, 0, 0), (23, .ireturn, 1, 1, 1, 0, 0), (24, .aload_n 0, 1, 0, 0, 0, 0), (25, .getfield 23, 3, 0, 6, 3, 1), (28, .getfield 104, 3, 0, 3, 4, 3), (31, .aload_n 0, 1, 0, 0, 0, 0), (32, .getfield 27, 3, 0, 6, 4, 1), (35, .iload_n 1, 1, 0, 0, 0, 0), (36, .invokevirtual 110, 3, 0, 69, 1, 412), (39, .iaload, 1, 0, 0, 0, 0), (40, .istore_n 2, 1, 0, 0, 0, 0), (41, .aload_n 0, 1, 0, 0, 0, 0), (42, .getfield 23, 3, 0, 6, 3, 1), (45, .getfield 144, 3, 0, 3, 1, 3), (48, .iload_n 2, 1, 0, 0, 0, 0), (49, .iaload, 1, 0, 0, 0, 0), (50, .iconst (-1), 1, 0, 0, 0, 0), (51, .if_icmp .eq 5, 3, 0, 56, 0, 0), (54, .iconst 0, 1, 0, 0, 0, 0), (55, .ireturn, 1, 1, 1, 0, 0), (56, .aload_n 0, 1, 0, 0, 0, 0), (57, .getfield 23, 3, 0, 6, 3, 1), (60, .iload_n 2, 1, 0, 0, 0, 0), (61, .iconst 1, 1, 0, 0, 0, 0), (62, .iadd, 1, 0, 0, 0, 0), (63, .invokevirtual 203, 3, 0, 62, 1, 312), (66, .istore_n 3, 1, 0, 0, 0, 0), (67, .aload_n 0, 1, 0, 0, 0, 0), (68, .getfield 23, 3, 0, 6, 3, 1), (71, .iload_n 2, 1, 0, 0, 0, 0), (72, .iconst 1, 1, 0, 0, 0, 0), (73, .iadd, 1, 0, 0, 0, 0), (74, .iload_n 3, 1, 0, 0, 0, 0), (75, .invokevirtual 182, 3, 0, 65, 2, 312), (78, .ifCond .eq 5, 3, 0, 83, 0, 0), (81, .iconst 0, 1, 0, 0, 0, 0), (82, .ireturn, 1, 1, 1, 0, 0), (83, .aload_n 0, 1, 0, 0, 0, 0), (84, .iload_n 2, 1, 0, 0, 0, 0), (85, .iconst 1, 1, 0, 0, 0, 0), (86, .iadd, 1, 0, 0, 0, 0), (87, .iload_n 3, 1, 0, 0, 0, 0), (88, .invokevirtual 206, 3, 0, 94, 2, 612), (91, .istore 4, 2, 0, 0, 0, 0), (93, .aload_n 0, 1, 0, 0, 0, 0), (94, .getfield 23, 3, 0, 6, 3, 1), (97, .getfield 145, 3, 0, 3, 2, 3), (100, .iload_n 3, 1, 0, 0, 0, 0), (101, .iaload, 1, 0, 0, 0, 0), (102, .istore 5, 2, 0, 0, 0, 0), (104, .aload_n 0, 1, 0, 0, 0, 0), (105, .getfield 9, 3, 0, 6, 0, 1), (108, .iconst 2, 1, 0, 0, 0, 0), (109, .iload 5, 2, 0, 0, 0, 0), (111, .iload 4, 2, 0, 0, 0, 0), (113, .invokevirtual 117, 3, 0, 3, 3, 712), (116, .istore 6, 2, 0, 0, 0, 0), (118, .aload_n 0, 1, 0, 0, 0, 0), (119, .getfield 9, 3, 0, 6, 0, 1), (122, .iconst 2, 1, 0, 0, 0, 0), (123, .iload 4, 2, 0, 0, 0, 0), (125, .iload 5, 2, 0, 0, 0, 0), (127, .invokevirtual 117, 3, 0, 3, 3, 712), (130, .istore 7, 2, 0, 0, 0, 0), (132, .aload_n 0, 1, 0, 0, 0, 0), (133, .getfield 15, 3, 0, 6, 1, 1), (136, .iload 6, 2, 0, 0, 0, 0), (138, .invokevirtual 177, 3, 0, 26, 1, 512), (141, .istore 8, 2, 0, 0, 0, 0), (143, .aload_n 0, 1, 0, 0, 0, 0), (144, .getfield 15, 3, 0, 6, 1, 1), (147, .iload 7, 2, 0, 0, 0, 0), (149, .invokevirtual 177, 3, 0, 26, 1, 512), (152, .istore 9, 2, 0, 0, 0, 0), (154, .iload 6, 2, 0, 0, 0, 0), (156, .ifCond .lt 20, 3, 0, 176, 0, 0), (159, .iload 7, 2, 0, 0, 0, 0), (161, .ifCond .lt 15, 3, 0, 176, 0, 0), (164, .iload 8, 2, 0, 0, 0, 0), (166, .iconst (-1), 1, 0, 0, 0, 0), (167, .if_icmp .eq 9, 3, 0, 176, 0, 0), (170, .iload 9, 2, 0, 0, 0, 0), (172, .iconst (-1), 1, 0, 0, 0, 0), (173, .if_icmp .ne 5, 3, 0, 178, 0, 0), (176, .iconst 0, 1, 0, 0, 0, 0), (177, .ireturn, 1, 1, 1, 0, 0), (178, .aload_n 0, 1, 0, 0, 0, 0), (179, .getfield 23, 3, 0, 6, 3, 1), (182, .iload 4, 2, 0, 0, 0, 0), (184, .invokevirtual 41, 3, 0, 52, 1, 302), (187, .aload_n 0, 1, 0, 0, 0, 0), (188, .getfield 23, 3, 0, 6, 3, 1), (191, .iconst 4, 1, 0, 0, 0, 0), (192, .iload 8, 2, 0, 0, 0, 0), (194, .imul, 1, 0, 0, 0, 0), (195, .iconst 2, 1, 0, 0, 0, 0), (196, .iadd, 1, 0, 0, 0, 0), (197, .iload 6, 2, 0, 0, 0, 0), (199, .invokevirtual 210, 3, 0, 53, 2, 302), (202, .aload_n 0, 1, 0, 0, 0, 0), (203, .getfield 23, 3, 0, 6, 3, 1), (206, .iconst 4, 1, 0, 0, 0, 0), (207, .iload 9, 2, 0, 0, 0, 0), (209, .imul, 1, 0, 0, 0, 0), (210, .iconst 2, 1, 0, 0, 0, 0), (211, .iadd, 1, 0, 0, 0, 0), (212, .iload 7, 2, 0, 0, 0, 0), (214, .invokevirtual 210, 3, 0, 53, 2, 302), (217, .aload_n 0, 1, 0, 0, 0, 0), (218, .getfield 23, 3, 0, 6, 3, 1), (221, .iconst 1, 1, 0, 0, 0, 0), (222, .iload 4, 2, 0, 0, 0, 0), (224, .invokevirtual 95, 3, 0, 51, 2, 302), (227, .aload_n 0, 1, 0, 0, 0, 0), (228, .getfield 23, 3, 0, 6, 3, 1), (231, .iconst 1, 1, 0, 0, 0, 0), (232, .iload 4, 2, 0, 0, 0, 0), (234, .invokevirtual 95, 3, 0, 51, 2, 302), (237, .aload_n 0, 1, 0, 0, 0, 0), (238, .getfield 27, 3, 0, 6, 4, 1), (241, .invokevirtual 51, 3, 0, 76, 0, 412), (244, .ifCond .ne 5, 3, 0, 249, 0, 0), (247, .iconst 0, 1, 0, 0, 0, 0), (248, .ireturn, 1, 1, 1, 0, 0), (249, .aload_n 0, 1, 0, 0, 0, 0), (250, .getfield 23, 3, 0, 6, 3, 1), (253, .iconst 1, 1, 0, 0, 0, 0), (254, .invokevirtual 41, 3, 0, 52, 1, 302), (257, .aload_n 0, 1, 0, 0, 0, 0), (258, .getfield 23, 3, 0, 6, 3, 1), (261, .iconst (-1), 1, 0, 0, 0, 0), (262, .iconst 1, 1, 0, 0, 0, 0), (263, .invokevirtual 95, 3, 0, 51, 2, 302), (266, .aload_n 0, 1, 0, 0, 0, 0), (267, .getfield 23, 3, 0, 6, 3, 1), (270, .iload_n 2, 1, 0, 0, 0, 0), (271, .iconst 1, 1, 0, 0, 0, 0), (272, .iadd, 1, 0, 0, 0, 0), (273, .iload_n 3, 1, 0, 0, 0, 0), (274, .invokevirtual 83, 3, 0, 54, 2, 302), (277, .aload_n 0, 1, 0, 0, 0, 0), (278, .getfield 23, 3, 0, 6, 3, 1), (281, .iconst 1, 1, 0, 0, 0, 0), (282, .iload 5, 2, 0, 0, 0, 0), (284, .invokevirtual 95, 3, 0, 51, 2, 302), (287, .aload_n 0, 1, 0, 0, 0, 0), (288, .getfield 23, 3, 0, 6, 3, 1), (291, .iload 5, 2, 0, 0, 0, 0), (293, .invokevirtual 41, 3, 0, 52, 1, 302), (296, .aload_n 0, 1, 0, 0, 0, 0), (297, .getfield 23, 3, 0, 6, 3, 1), (300, .iconst 4, 1, 0, 0, 0, 0), (301, .iload 9, 2, 0, 0, 0, 0), (303, .imul, 1, 0, 0, 0, 0), (304, .iconst 2, 1, 0, 0, 0, 0), (305, .iadd, 1, 0, 0, 0, 0), (306, .iload 7, 2, 0, 0, 0, 0), (308, .invokevirtual 210, 3, 0, 53, 2, 302), (311, .aload_n 0, 1, 0, 0, 0, 0), (312, .getfield 23, 3, 0, 6, 3, 1), (315, .iconst 4, 1, 0, 0, 0, 0), (316, .iload 8, 2, 0, 0, 0, 0), (318, .imul, 1, 0, 0, 0, 0), (319, .iconst 2, 1, 0, 0, 0, 0), (320, .iadd, 1, 0, 0, 0, 0), (321, .iload 6, 2, 0, 0, 0, 0), (323, .invokevirtual 210, 3, 0, 53, 2, 302), (326, .aload_n 0, 1, 0, 0, 0, 0), (327, .getfield 23, 3, 0, 6, 3, 1), (330, .iconst 1, 1, 0, 0, 0, 0), (331, .iload 5, 2, 0, 0, 0, 0), (333, .invokevirtual 95, 3, 0, 51, 2, 302), (336, .aload_n 0, 1, 0, 0, 0, 0), (337, .getfield 23, 3, 0, 6, 3, 1), (340, .iconst 1, 1, 0, 0, 0, 0), (341, .iload 5, 2, 0, 0, 0, 0), (343, .invokevirtual 95, 3, 0, 51, 2, 302), (346, .aload_n 0, 1, 0, 0, 0, 0), (347, .getfield 27, 3, 0, 6, 4, 1), (350, .invokevirtual 190, 3, 0, 77, 0, 412), (353, .ireturn, 1, 1, 1, 0, 0)]
def am_m93 : am_M := (yX6_newConstructor, cX6_newConstructor, 10, (some .boolean), am_r93)
def am_r94 : List am_I := [(0, .aload_n 0, 1, 0, 0, 0, 0), (1, .getfield 9, 3, 0, 6, 0, 1), (4, .invokevirtual 146, 3, 0, 11, 0, 702), (7, .aload_n 0, 1, 0, 0, 0, 0), (8, .getfield 23, 3, 0, 6, 3, 1), (11, .iload_n 1, 1, 0, 0, 0, 0), (12, .iload_n 2, 1, 0, 0, 0, 0), (13, .invokevirtual 149, 3, 0, 66, 2, 302), (16, .aload_n 0, 1, 0, 0, 0, 0), (17, .getfield 9, 3, 0, 6, 0, 1), (20, .invokevirtual 152, 3, 0, 13, 0, 702), (23, .aload_n 0, 1, 0, 0, 0, 0), (24, .getfield 9, 3, 0, 6, 0, 1), (27, .invokevirtual 196, 3, 0, 14, 0, 712), (30, .istore_n 3, 1, 0, 0, 0, 0), (31, .iload_n 3, 1, 0, 0, 0, 0), (32, .iconst 2, 1, 0, 0, 0, 0), (33, .if_icmp .le 7, 3, 0, 40, 0, 0), (36, .iconst (-1), 1, 0, 0, 0, 0), (37, .goto 11, 3, 0, 48, 0, 0), (40, .aload_n 0, 1, 0, 0, 0, 0), (41, .getfield 15, 3, 0, 6, 1, 1), (44, .iload_n 3, 1, 0, 0, 0, 0), (45, .invokevirtual 213, 3, 0, 25, 1, 512), (48, .istore 4, 2, 0, 0, 0, 0), (50, .iload 4, 2, 0, 0, 0, 0), (52, .iconst (-1), 1, 0, 0, 0, 0), (53, .if_icmp .ne 6, 3, 0, 59, 0, 0), (56, .bipush (-2), 2, 0, 0, 0, 0), (58, .ireturn, 1, 1, 0, 0, 0), (59, .aload_n 0, 1, 0, 0, 0, 0), (60, .getfield 9, 3, 0, 6, 0, 1), (63, .iconst 0, 1, 0, 0, 0, 0), (64, .invokevirtual 216, 3, 0, 15, 1, 712), (67, .istore 5, 2, 0, 0, 0, 0), (69, .iload_n 3, 1, 0, 0, 0, 0), (70, .iconst 2, 1, 0, 0, 0, 0), (71, .if_icmp .ge 7, 3, 0, 78, 0, 0), (74, .iconst (-1), 1, 0, 0, 0, 0), (75, .goto 21, 3, 0, 96, 0, 0), (78, .aload_n 0, 1, 0, 0, 0, 0), (79, .getfield 9, 3, 0, 6, 0, 1), (82, .aload_n 0, 1, 0, 0, 0, 0), (83, .getfield 9, 3, 0, 6, 0, 1), (86, .getfield 219, 3, 0, 7, 0, 3), (89, .iload 5, 2, 0, 0, 0, 0), (91, .iaload, 1, 0, 0, 0, 0), (92, .ineg, 1, 0, 0, 0, 0), (93, .invokevirtual 216, 3, 0, 15, 1, 712), (96, .istore 6, 2, 0, 0, 0, 0), (98, .aload_n 0, 1, 0, 0, 0, 0), (99, .getfield 9, 3, 0, 6, 0, 1), (102, .iload 4, 2, 0, 0, 0, 0), (104, .iload 5, 2, 0, 0, 0, 0), (106, .iload 6, 2, 0, 0, 0, 0), (108, .invokevirtual 117, 3, 0, 3, 3, 712), (111, .ireturn, 1, 1, 0, 0, 0)]
def am_m94 : am_M := (yX6_newType, cX6_newType, 7, (some .int), am_r94)
def am_r95 : List am_I := [(0, .aload_n 0, 1, 0, 0, 0, 0), (1, .getfield 27, 3, 0, 6, 4, 1), (4, .iload_n 1, 1, 0, 0, 0, 0), (5, .invokevirtual 137, 3, 0, 68, 1, 412), (8, .ifCond .eq 21, 3, 0, 29, 0, 0), (11, .aload_n 0, 1, 0, 0, 0, 0), (12, .getfield 23, 3, 0, 6, 3, 1), (15, .aload_n 0, 1, 0, 0, 0, 0), (16, .getfield 27, 3, 0, 6, 4, 1), (19, .iload_n 1, 1, 0, 0, 0, 0), (20, .invokevirtual 110, 3, 0, 69, 1, 412), (23, .invokevirtual 220, 3, 0, 63, 1, 322), (26, .goto 4, 3, 0, 30, 0, 0), (29, .aconst_null, 1, 0, 0, 0, 0), (30, .areturn, 1, 1, 0, 0, 0)]
def am_m95 : am_M := (yX6_equationOf, cX6_equationOf, 2, (some (.object "TraceJudge$Equation")), am_r95)
def am_r96 : List am_I := [(0, .aload_n 0, 1, 0, 0, 0, 0), (1, .invokespecial 3, 3, 0, 0, 0, 0), (4, .aload_n 0, 1, 0, 0, 0, 0), (5, .getstatic 9, 3, 0, 0, 0, 0), (8, .putfield 15, 3, 0, 0, 2, 1), (11, .aload_n 0, 1, 0, 0, 0, 0), (12, .iconst 5, 1, 0, 0, 0, 0), (13, .newarray .int, 2, 0, 0, 0, 0), (15, .putfield 18, 3, 0, 0, 3, 7), (18, .aload_n 0, 1, 0, 0, 0, 0), (19, .iconst 5, 1, 0, 0, 0, 0), (20, .newarray .int, 2, 0, 0, 0, 0), (22, .putfield 21, 3, 0, 0, 4, 7), (25, .aload_n 0, 1, 0, 0, 0, 0), (26, .aload_n 1, 1, 0, 0, 0, 0), (27, .putfield 24, 3, 0, 0, 0, 7), (30, .aload_n 0, 1, 0, 0, 0, 0), (31, .aload_n 2, 1, 0, 0, 0, 0), (32, .putfield 28, 3, 0, 0, 1, 7), (35, .return_, 1, 1, 0, 0, 0)]
def am_m96 : am_M := (yX0_init, cX0_init, 3, none, am_r96)
def am_r97 : List am_I := [(0, .iload_n 1, 1, 0, 0, 0, 0), (1, .ifCond .lt 8, 3, 0, 9, 0, 0), (4, .iload_n 1, 1, 0, 0, 0, 0), (5, .iconst 2, 1, 0, 0, 0, 0), (6, .if_icmp .le 5, 3, 0, 11, 0, 0), (9, .iconst 0, 1, 0, 0, 0, 0), (10, .ireturn, 1, 1, 1, 0, 0), (11, .aload_n 0, 1, 0, 0, 0, 0), (12, .getfield 21, 3, 0, 0, 4, 1), (15, .iconst (-1), 1, 0, 0, 0, 0), (16, .invokestatic 32, 3, 0, 0, 2, 3), (19, .aload_n 0, 1, 0, 0, 0, 0), (20, .getfield 18, 3, 0, 0, 3, 1), (23, .iconst 3, 1, 0, 0, 0, 0), (24, .iconst 1, 1, 0, 0, 0, 0), (25, .iastore, 1, 0, 0, 0, 0), (26, .aload_n 0, 1, 0, 0, 0, 0), (27, .getfield 18, 3, 0, 0, 3, 1), (30, .iconst 0, 1, 0, 0, 0, 0), (31, .iload_n 1, 1, 0, 0, 0, 0), (32, .iconst 2, 1, 0, 0, 0, 0), (33, .if_icmp .ne 16, 3, 0, 49, 0, 0), (36, .aload_n 0, 1, 0, 0, 0, 0), (37, .getfield 24, 3, 0, 0, 0, 1), (40, .iconst 1, 1, 0, 0, 0, 0), (41, .iconst (-1), 1, 0, 0, 0, 0), (42, .iconst (-1), 1, 0, 0, 0, 0), (43, .invokevirtual 38, 3, 0, 3, 3, 712), (46, .goto 4, 3, 0, 50, 0, 0), (49, .iconst 0, 1, 0, 0, 0, 0), (50, .iastore, 1, 5, 0, 0, 0), (51, .aload_n 0, 1, 0, 0, 0, 0), (52, .getfield 18, 3, 0, 0, 3, 1), (55, .iconst 1, 1, 0, 0, 0, 0), (56, .aload_n 0, 1, 0, 0, 0, 0), (57, .getfield 18, 3, 0, 0, 3, 1), (60, .iconst 0, 1, 0, 0, 0, 0), (61, .iaload, 1, 0, 0, 0, 0), (62, .iastore, 1, 0, 0, 0, 0), (63, .iload_n 1, 1, 0, 0, 0, 0), (64, .ifCond .ne 39, 3, 0, 103, 0, 0), (67, .aload_n 0, 1, 0, 0, 0, 0), (68, .getstatic 9, 3, 0, 0, 0, 0), (71, .putfield 15, 3, 0, 0, 2, 1), (74, .aload_n 0, 1, 0, 0, 0, 0), (75, .getfield 18, 3, 0, 0, 3, 1), (78, .iconst 2, 1, 0, 0, 0, 0), (79, .aload_n 0, 1, 0, 0, 0, 0), (80, .getfield 24, 3, 0, 0, 0, 1), (83, .iconst 2, 1, 0, 0, 0, 0), (84, .iconst 0, 1, 0, 0, 0, 0), (85, .aload_n 0, 1, 0, 0, 0, 0), (86, .getfield 24, 3, 0, 0, 0, 1), (89, .bipush (-2), 2, 0, 0, 0, 0), (91, .iconst (-1), 1, 0, 0, 0, 0), (92, .iconst (-1), 1, 0, 0, 0, 0), (93, .invokevirtual 38, 3, 0, 3, 3, 712), (96, .invokevirtual 38, 3, 0, 3, 3, 712), (99, .iastore, 1, 0, 0, 0, 0), (100, .goto 88, 3, 0, 188, 0, 0), (103, .iload_n 1, 1, 0, 0, 0, 0), (104, .iconst 1, 1, 0, 0, 0, 0), (105, .if_icmp .ne 50, 3, 0, 155, 0, 0), (108, .aload_n 0, 1, 0, 0, 0, 0), (109, .getstatic 44, 3, 0, 2, 0, 0), (112, .putfield 15, 3, 0, 0, 2, 1), (115, .aload_n 0, 1, 0, 0, 0, 0), (116, .getfield 18, 3, 0, 0, 3, 1), (119, .iconst 2, 1, 0, 0, 0, 0), (120, .aload_n 0, 1, 0, 0, 0, 0), (121, .getfield 24, 3, 0, 0, 0, 1), (124, .iconst 2, 1, 0, 0, 0, 0), (125, .iconst 0, 1, 0, 0, 0, 0), (126, .iconst 1, 1, 0, 0, 0, 0), (127, .invokevirtual 38, 3, 0, 3, 3, 712), (130, .iastore, 1, 0, 0, 0, 0), (131, .aload_n 0, 1, 0, 0, 0, 0), (132, .getfield 18, 3, 0, 0, 3, 1), (135, .iconst 4, 1, 0, 0, 0, 0), (136, .aload_n 0, 1, 0, 0, 0, 0), (137, .getfield 24, 3, 0, 0, 0, 1), (140, .iconst 2, 1, 0, 0, 0, 0), (141, .aload_n 0, 1, 0, 0, 0, 0), (142, .getfield 18, 3, 0, 0, 3, 1), (145, .iconst 2, 1, 0, 0, 0, 0), (146, .iaload, 1, 0, 0, 0, 0), (147, .iconst 0, 1, 0, 0, 0, 0), (148, .invokevirtual 38, 3, 0, 3, 3, 712), (151, .iastore, 1, 0, 0, 0, 0), (152, .goto 36, 3, 0, 188, 0, 0), (155, .aload_n 0, 1, 0, 0, 0, 0), (156, .getstatic 47, 3, 0, 3, 0, 0), (159, .putfield 15, 3, 0, 0, 2, 1), (162, .aload_n 0, 1, 0, 0, 0, 0), (163, .getfield 18, 3, 0, 0, 3, 1), (166, .iconst 2, 1, 0, 0, 0, 0), (167, .aload_n 0, 1, 0, 0, 0, 0), (168, .getfield 24, 3, 0, 0, 0, 1), (171, .iconst 2, 1, 0, 0, 0, 0), (172, .aload_n 0, 1, 0, 0, 0, 0), (173, .getfield 18, 3, 0, 0, 3, 1), (176, .iconst 0, 1, 0, 0, 0, 0), (177, .iaload, 1, 0, 0, 0, 0), (178, .aload_n 0, 1, 0, 0, 0, 0), (179, .getfield 18, 3, 0, 0, 3, 1), (182, .iconst 0, 1, 0, 0, 0, 0), (183, .iaload, 1, 0, 0, 0, 0), (184, .invokevirtual 38, 3, 0, 3, 3, 712), (187, .iastore, 1, 0, 0, 0, 0), (188, .iconst 1, 1, 0, 0, 0, 0), (189, .ireturn, 1, 1, 1, 0, 0)]
def am_m97 : am_M := (yX0_choose, cX0_choose, 2, (some .boolean), am_r97)
def am_r98 : List am_I := [(0, .iload_n 1, 1, 0, 0, 0, 0), (1, .aload_n 0, 1, 0, 0, 0, 0), (2, .getfield 15, 3, 0, 0, 2, 1), (5, .arraylength, 1, 0, 0, 0, 0), (6, .if_icmp .lt 4, 3, 0, 10, 0, 0), (9, .return_, 1, 1, 0, 0, 0), (10, .iload_n 1, 1, 0, 0, 0, 0), (11, .iconst 1, 1, 0, 0, 0, 0), (12, .iadd, 1, 0, 0, 0, 0), (13, .istore_n 3, 1, 0, 0, 0, 0), (14, .aload_n 0, 1, 0, 0, 0, 0), (15, .iload_n 3, 1, 0, 0, 0, 0), (16, .invokevirtual 50, 3, 0, 105, 1, 12), (19, .istore 4, 2, 0, 0, 0, 0), (21, .aload_n 0, 1, 0, 0, 0, 0), (22, .getfield 15, 3, 0, 0, 2, 1), (25, .iload_n 1, 1, 0, 0, 0, 0), (26, .iaload, 1, 0, 0, 0, 0), (27, .tableswitch 167 10 16 #[41, 70, 81, 109, 120, 145, 156], 41, 0, 0, 0, 0), (68, .aload_n 0, 1, 0, 0, 0, 0), (69, .getfield 28, 3, 0, 0, 1, 1), (72, .iconst (-1), 1, 0, 0, 0, 0), (73, .aload_n 0, 1, 0, 0, 0, 0), (74, .iload_n 1, 1, 0, 0, 0, 0), (75, .invokevirtual 54, 3, 0, 104, 1, 12), (78, .invokevirtual 57, 3, 0, 51, 2, 302), (81, .aload_n 0, 1, 0, 0, 0, 0), (82, .iload_n 3, 1, 0, 0, 0, 0), (83, .iload_n 2, 1, 0, 0, 0, 0), (84, .invokevirtual 63, 3, 0, 98, 2, 2), (87, .aload_n 0, 1, 0, 0, 0, 0), (88, .iload 4, 2, 0, 0, 0, 0), (90, .iload_n 2, 1, 0, 0, 0, 0), (91, .invokevirtual 63, 3, 0, 98, 2, 2), (94, .goto 111, 3, 0, 205, 0, 0), (97, .aload_n 0, 1, 0, 0, 0, 0), (98, .iload_n 3, 1, 0, 0, 0, 0), (99, .iload 4, 2, 0, 0, 0, 0), (101, .iload_n 2, 1, 0, 0, 0, 0), (102, .invokevirtual 64, 3, 0, 100, 3, 2), (105, .goto 100, 3, 0, 205, 0, 0), (108, .aload_n 0, 1, 0, 0, 0, 0), (109, .getfield 28, 3, 0, 0, 1, 1), (112, .aload_n 0, 1, 0, 0, 0, 0), (113, .iload_n 3, 1, 0, 0, 0, 0), (114, .invokevirtual 54, 3, 0, 104, 1, 12), (117, .invokevirtual 68, 3, 0, 52, 1, 302), (120, .aload_n 0, 1, 0, 0, 0, 0), (121, .iload_n 3, 1, 0, 0, 0, 0), (122, .iload_n 2, 1, 0, 0, 0, 0), (123, .invokevirtual 63, 3, 0, 98, 2, 2), (126, .aload_n 0, 1, 0, 0, 0, 0), (127, .iload 4, 2, 0, 0, 0, 0), (129, .iload_n 2, 1, 0, 0, 0, 0), (130, .invokevirtual 63, 3, 0, 98, 2, 2), (133, .goto 72, 3, 0, 205, 0, 0), (136, .aload_n 0, 1, 0, 0, 0, 0), (137, .iload_n 3, 1, 0, 0, 0, 0), (138, .iload 4, 2, 0, 0, 0, 0), (140, .iload_n 2, 1, 0, 0, 0, 0), (141, .invokevirtual 72, 3, 0, 103, 3, 2), (144, .goto 61, 3, 0, 205, 0, 0), (147, .aload_n 0, 1, 0, 0, 0, 0), (148, .getfield 28, 3, 0, 0, 1, 1), (151, .iconst 1, 1, 0, 0, 0, 0), (152, .invokevirtual 68, 3, 0, 52, 1, 302), (155, .aload_n 0, 1, 0, 0, 0, 0), (156, .iload_n 3, 1, 0, 0, 0, 0), (157, .iload 4, 2, 0, 0, 0, 0), (159, .iload_n 2, 1, 0, 0, 0, 0), (160, .invokevirtual 72, 3, 0, 103, 3, 2), (163, .aload_n 0, 1, 0, 0, 0, 0), (164, .iload_n 3, 1, 0, 0, 0, 0), (165, .iload_n 2, 1, 0, 0, 0, 0), (166, .invokevirtual 63, 3, 0, 98, 2, 2), (169, .goto 36, 3, 0, 205, 0, 0), (172, .aload_n 0, 1, 0, 0, 0, 0), (173, .iload_n 3, 1, 0, 0, 0, 0), (174, .iload 4, 2, 0, 0, 0, 0), (176, .iload_n 2, 1, 0, 0, 0, 0), (177, .invokevirtual 75, 3, 0, 101, 3, 2), (180, .goto 25, 3, 0, 205, 0, 0), (183, .aload_n 0, 1, 0, 0, 0, 0), (184, .iload_n 3, 1, 0, 0, 0, 0), (185, .iload 4, 2, 0, 0, 0, 0), (187, .iload_n 2, 1, 0, 0, 0, 0), (188, .invokevirtual 78, 3, 0, 102, 3, 2), (191, .goto 14, 3, 0, 205, 0, 0), (194, .aload_n 0, 1, 0, 0, 0, 0), (195, .aload_n 0, 1, 0, 0, 0, 0), (196, .getfield 15, 3, 0, 0, 2, 1), (199, .iload_n 1, 1, 0, 0, 0, 0), (200, .iaload, 1, 0, 0, 0, 0), (201, .iload_n 2, 1, 0, 0, 0, 0), (202, .invokevirtual 81, 3, 0, 99, 2, 2), (205, .return_, 1, 1, 0, 0, 0)]
def am_m98 : am_M := (yX0_write, cX0_write, 5, none, am_r98)
def am_r99 : List am_I := [(0, .aload_n 0, 1, 0, 0, 0, 0), (1, .getfield 21, 3, 0, 0, 4, 1), (4, .iload_n 1, 1, 0, 0, 0, 0), (5, .iaload, 1, 0, 0, 0, 0), (6, .iconst (-1), 1, 0, 0, 0, 0), (7, .if_icmp .ne 24, 3, 0, 31, 0, 0), (10, .aload_n 0, 1, 0, 0, 0, 0), (11, .getfield 28, 3, 0, 0, 1, 1), (14, .getstatic 84, 3, 0, 4, 0, 0), (17, .iload_n 1, 1, 0, 0, 0, 0), (18, .iaload, 1, 0, 0, 0, 0), (19, .aload_n 0, 1, 0, 0, 0, 0), (20, .getfield 18, 3, 0, 0, 3, 1), (23, .iload_n 1, 1, 0, 0, 0, 0), (24, .iaload, 1, 0, 0, 0, 0), (25, .invokevirtual 57, 3, 0, 51, 2, 302), (28, .goto 30, 3, 0, 58, 0, 0), (31, .aload_n 0, 1, 0, 0, 0, 0), (32, .getfield 28, 3, 0, 0, 1, 1), (35, .iconst 4, 1, 0, 0, 0, 0), (36, .iload_n 2, 1, 0, 0, 0, 0), (37, .iconst 1, 1, 0, 0, 0, 0), (38, .isub, 1, 0, 0, 0, 0), (39, .aload_n 0, 1, 0, 0, 0, 0), (40, .getfield 21, 3, 0, 0, 4, 1), (43, .iload_n 1, 1, 0, 0, 0, 0), (44, .iaload, 1, 0, 0, 0, 0), (45, .isub, 1, 0, 0, 0, 0), (46, .imul, 1, 0, 0, 0, 0), (47, .iconst 0, 1, 0, 0, 0, 0), (48, .iadd, 1, 0, 0, 0, 0), (49, .aload_n 0, 1, 0, 0, 0, 0), (50, .getfield 18, 3, 0, 0, 3, 1), (53, .iload_n 1, 1, 0, 0, 0, 0), (54, .iaload, 1, 0, 0, 0, 0), (55, .invokevirtual 57, 3, 0, 51, 2, 302), (58, .return_, 1, 1, 0, 0, 0)]
def am_m99 : am_M := (yX0_writeName, cX0_writeName, 3, none, am_r99)
def am_r100 : List am_I := [(0, .aload_n 0, 1, 0, 0, 0, 0), (1, .getfield 28, 3, 0, 0, 1, 1), (4, .bipush (-2), 2, 0, 0, 0, 0), (6, .aload_n 0, 1, 0, 0, 0, 0), (7, .getfield 24, 3, 0, 0, 0, 1), (10, .iconst 2, 1, 0, 0, 0, 0), (11, .aload_n 0, 1, 0, 0, 0, 0), (12, .iload_n 1, 1, 0, 0, 0, 0), (13, .invokevirtual 54, 3, 0, 104, 1, 12), (16, .aload_n 0, 1, 0, 0, 0, 0), (17, .iload_n 2, 1, 0, 0, 0, 0), (18, .invokevirtual 54, 3, 0, 104, 1, 12), (21, .invokevirtual 38, 3, 0, 3, 3, 712), (24, .invokevirtual 57, 3, 0, 51, 2, 302), (27, .aload_n 0, 1, 0, 0, 0, 0), (28, .getfield 21, 3, 0, 0, 4, 1), (31, .aload_n 0, 1, 0, 0, 0, 0), (32, .getfield 15, 3, 0, 0, 2, 1), (35, .iload_n 1, 1, 0, 0, 0, 0), (36, .iaload, 1, 0, 0, 0, 0), (37, .iload_n 3, 1, 0, 0, 0, 0), (38, .iastore, 1, 0, 0, 0, 0), (39, .aload_n 0, 1, 0, 0, 0, 0), (40, .iload_n 2, 1, 0, 0, 0, 0), (41, .iload_n 3, 1, 0, 0, 0, 0), (42, .iconst 1, 1, 0, 0, 0, 0), (43, .iadd, 1, 0, 0, 0, 0), (44, .invokevirtual 63, 3, 0, 98, 2, 2), (47, .return_, 1, 1, 0, 0, 0)]
def am_m100 : am_M := (yX0_writeBinding, cX0_writeBinding, 4, none, am_r100)
def am_r101 : List am_I := [(0, .aload_n 0, 1, 0, 0, 0, 0), (1, .getfield 24, 3, 0, 0, 0, 1), (4, .iconst 2, 1, 0, 0, 0, 0), (5, .aload_n 0, 1, 0, 0, 0, 0), (6, .iload_n 1, 1, 0, 0, 0, 0), (7, .invokevirtual 54, 3, 0, 104, 1, 12), (10, .iconst 1, 1, 0, 0, 0, 0), (11, .invokevirtual 38, 3, 0, 3, 3, 712), (14, .istore 4, 2, 0, 0, 0, 0), (16, .aload_n 0, 1, 0, 0, 0, 0), (17, .getfield 28, 3, 0, 0, 1, 1), (20, .iload 4, 2, 0, 0, 0, 0), (22, .invokevirtual 68, 3, 0, 52, 1, 302), (25, .aload_n 0, 1, 0, 0, 0, 0), (26, .iload_n 1, 1, 0, 0, 0, 0), (27, .iload_n 2, 1, 0, 0, 0, 0), (28, .iload_n 3, 1, 0, 0, 0, 0), (29, .invokevirtual 64, 3, 0, 100, 3, 2), (32, .aload_n 0, 1, 0, 0, 0, 0), (33, .getfield 28, 3, 0, 0, 1, 1), (36, .bipush (-2), 2, 0, 0, 0, 0), (38, .iload 4, 2, 0, 0, 0, 0), (40, .invokevirtual 57, 3, 0, 51, 2, 302), (43, .aload_n 0, 1, 0, 0, 0, 0), (44, .aload_n 0, 1, 0, 0, 0, 0), (45, .getfield 15, 3, 0, 0, 2, 1), (48, .arraylength, 1, 0, 0, 0, 0), (49, .bipush 7, 2, 0, 0, 0, 0), (51, .isub, 1, 0, 0, 0, 0), (52, .iload_n 3, 1, 0, 0, 0, 0), (53, .iconst 1, 1, 0, 0, 0, 0), (54, .iadd, 1, 0, 0, 0, 0), (55, .invokevirtual 63, 3, 0, 98, 2, 2), (58, .return_, 1, 1, 0, 0, 0)]
def am_m101 : am_M := (yX0_writeAll, cX0_writeAll, 5, none, am_r101)
def am_r102 : List am_I := [(0, .aload_n 0, 1, 0, 0, 0, 0), (1, .getfield 24, 3, 0, 0, 0, 1), (4, .iconst 2, 1, 0, 0, 0, 0), (5, .aload_n 0, 1, 0, 0, 0, 0), (6, .iload_n 1, 1, 0, 0, 0, 0), (7, .invokevirtual 54, 3, 0, 104, 1, 12), (10, .iconst 1, 1, 0, 0, 0, 0), (11, .invokevirtual 38, 3, 0, 3, 3, 712), (14, .istore 4, 2, 0, 0, 0, 0), (16, .aload_n 0, 1, 0, 0, 0, 0), (17, .getfield 28, 3, 0, 0, 1, 1), (20, .iconst (-1), 1, 0, 0, 0, 0), (21, .iconst 1, 1, 0, 0, 0, 0), (22, .invokevirtual 57, 3, 0, 51, 2, 302), (25, .aload_n 0, 1, 0, 0, 0, 0), (26, .iload_n 1, 1, 0, 0, 0, 0), (27, .iload_n 2, 1, 0, 0, 0, 0), (28, .iload_n 3, 1, 0, 0, 0, 0), (29, .invokevirtual 64, 3, 0, 100, 3, 2), (32, .aload_n 0, 1, 0, 0, 0, 0), (33, .getfield 28, 3, 0, 0, 1, 1), (36, .bipush 6, 2, 0, 0, 0, 0), (38, .aload_n 0, 1, 0, 0, 0, 0), (39, .getfield 24, 3, 0, 0, 0, 1), (42, .iconst 2, 1, 0, 0, 0, 0), (43, .iload 4, 2, 0, 0, 0, 0), (45, .aload_n 0, 1, 0, 0, 0, 0), (46, .iload_n 1, 1, 0, 0, 0, 0), (47, .invokevirtual 54, 3, 0, 104, 1, 12), (50, .invokevirtual 38, 3, 0, 3, 3, 712), (53, .invokevirtual 87, 3, 0, 53, 2, 302), (56, .aload_n 0, 1, 0, 0, 0, 0), (57, .iload_n 1, 1, 0, 0, 0, 0), (58, .iload_n 2, 1, 0, 0, 0, 0), (59, .iload_n 3, 1, 0, 0, 0, 0), (60, .invokevirtual 64, 3, 0, 100, 3, 2), (63, .return_, 1, 1, 0, 0, 0)]
def am_m102 : am_M := (yX0_writeExists, cX0_writeExists, 5, none, am_r102)
def am_r103 : List am_I := [(0, .aload_n 0, 1, 0, 0, 0, 0), (1, .getfield 24, 3, 0, 0, 0, 1), (4, .iconst 2, 1, 0, 0, 0, 0), (5, .iconst 1, 1, 0, 0, 0, 0), (6, .iconst 1, 1, 0, 0, 0, 0), (7, .invokevirtual 38, 3, 0, 3, 3, 712), (10, .istore 4, 2, 0, 0, 0, 0), (12, .aload_n 0, 1, 0, 0, 0, 0), (13, .getfield 24, 3, 0, 0, 0, 1), (16, .iconst 2, 1, 0, 0, 0, 0), (17, .iconst 1, 1, 0, 0, 0, 0), (18, .iload 4, 2, 0, 0, 0, 0), (20, .invokevirtual 38, 3, 0, 3, 3, 712), (23, .istore 5, 2, 0, 0, 0, 0), (25, .aload_n 0, 1, 0, 0, 0, 0), (26, .getfield 24, 3, 0, 0, 0, 1), (29, .iconst 2, 1, 0, 0, 0, 0), (30, .iload 5, 2, 0, 0, 0, 0), (32, .iconst 1, 1, 0, 0, 0, 0), (33, .invokevirtual 38, 3, 0, 3, 3, 712), (36, .istore 6, 2, 0, 0, 0, 0), (38, .aload_n 0, 1, 0, 0, 0, 0), (39, .getfield 28, 3, 0, 0, 1, 1), (42, .iload 6, 2, 0, 0, 0, 0), (44, .invokevirtual 68, 3, 0, 52, 1, 302), (47, .aload_n 0, 1, 0, 0, 0, 0), (48, .getfield 28, 3, 0, 0, 1, 1), (51, .bipush (-2), 2, 0, 0, 0, 0), (53, .iload 6, 2, 0, 0, 0, 0), (55, .invokevirtual 57, 3, 0, 51, 2, 302), (58, .aload_n 0, 1, 0, 0, 0, 0), (59, .getfield 28, 3, 0, 0, 1, 1), (62, .iconst (-1), 1, 0, 0, 0, 0), (63, .iconst 1, 1, 0, 0, 0, 0), (64, .invokevirtual 57, 3, 0, 51, 2, 302), (67, .aload_n 0, 1, 0, 0, 0, 0), (68, .getfield 28, 3, 0, 0, 1, 1), (71, .iconst 0, 1, 0, 0, 0, 0), (72, .iload 5, 2, 0, 0, 0, 0), (74, .invokevirtual 87, 3, 0, 53, 2, 302), (77, .aload_n 0, 1, 0, 0, 0, 0), (78, .iload_n 1, 1, 0, 0, 0, 0), (79, .iload_n 3, 1, 0, 0, 0, 0), (80, .iconst 1, 1, 0, 0, 0, 0), (81, .iadd, 1, 0, 0, 0, 0), (82, .invokevirtual 63, 3, 0, 98, 2, 2), (85, .aload_n 0, 1, 0, 0, 0, 0), (86, .iload_n 2, 1, 0, 0, 0, 0), (87, .iload_n 3, 1, 0, 0, 0, 0), (88, .iconst 1, 1, 0, 0, 0, 0), (89, .iadd, 1, 0, 0, 0, 0), (90, .invokevirtual 63, 3, 0, 98, 2, 2), (93, .aload_n 0, 1, 0, 0, 0, 0), (94, .getfield 28, 3, 0, 0, 1, 1), (97, .bipush (-2), 2, 0, 0, 0, 0), (99, .iload 6, 2, 0, 0, 0, 0), (101, .invokevirtual 57, 3, 0, 51, 2, 302), (104, .aload_n 0, 1, 0, 0, 0, 0), (105, .getfield 28, 3, 0, 0, 1, 1), (108, .iconst (-1), 1, 0, 0, 0, 0), (109, .iconst 1, 1, 0, 0, 0, 0), (110, .invokevirtual 57, 3, 0, 51, 2, 302), (113, .aload_n 0, 1, 0, 0, 0, 0), (114, .getfield 28, 3, 0, 0, 1, 1), (117, .iconst 0, 1, 0, 0, 0, 0), (118, .iload 5, 2, 0, 0, 0, 0), (120, .invokevirtual 87, 3, 0, 53, 2, 302), (123, .aload_n 0, 1, 0, 0, 0, 0), (124, .aload_n 0, 1, 0, 0, 0, 0), (125, .getfield 15, 3, 0, 0, 2, 1), (128, .arraylength, 1, 0, 0, 0, 0), (129, .bipush 7, 2, 0, 0, 0, 0), (131, .isub, 1, 0, 0, 0, 0), (132, .iload_n 3, 1, 0, 0, 0, 0), (133, .iconst 1, 1, 0, 0, 0, 0), (134, .iadd, 1, 0, 0, 0, 0), (135, .invokevirtual 63, 3, 0, 98, 2, 2), (138, .aload_n 0, 1, 0, 0, 0, 0), (139, .aload_n 0, 1, 0, 0, 0, 0), (140, .getfield 15, 3, 0, 0, 2, 1), (143, .arraylength, 1, 0, 0, 0, 0), (144, .bipush 7, 2, 0, 0, 0, 0), (146, .isub, 1, 0, 0, 0, 0), (147, .iload_n 3, 1, 0, 0, 0, 0), (148, .iconst 1, 1, 0, 0, 0, 0), (149, .iadd, 1, 0, 0, 0, 0), (150, .invokevirtual 63, 3, 0, 98, 2, 2), (153, .return_, 1, 1, 0, 0, 0)]
def am_m103 : am_M := (yX0_writeAnd, cX0_writeAnd, 7, none, am_r103)
def am_r104 : List am_I := [(0, .iload_n 1, 1, 0, 0, 0, 0), (1, .aload_n 0, 1, 0, 0, 0, 0), (2, .getfield 15, 3, 0, 0, 2, 1), (5, .arraylength, 1, 0, 0, 0, 0), (6, .if_icmp .lt 6, 3, 0, 12, 0, 0), (9, .bipush (-2), 2, 0, 0, 0, 0), (11, .ireturn, 1, 1, 0, 0, 0), (12, .aload_n 0, 1, 0, 0, 0, 0), (13, .getfield 15, 3, 0, 0, 2, 1), (16, .iload_n 1, 1, 0, 0, 0, 0), (17, .iaload, 1, 0, 0, 0, 0), (18, .iconst 5, 1, 0, 0, 0, 0), (19, .if_icmp .ge 15, 3, 0, 34, 0, 0), (22, .aload_n 0, 1, 0, 0, 0, 0), (23, .getfield 18, 3, 0, 0, 3, 1), (26, .aload_n 0, 1, 0, 0, 0, 0), (27, .getfield 15, 3, 0, 0, 2, 1), (30, .iload_n 1, 1, 0, 0, 0, 0), (31, .iaload, 1, 0, 0, 0, 0), (32, .iaload, 1, 0, 0, 0, 0), (33, .ireturn, 1, 1, 0, 0, 0), (34, .aload_n 0, 1, 0, 0, 0, 0), (35, .getfield 15, 3, 0, 0, 2, 1), (38, .iload_n 1, 1, 0, 0, 0, 0), (39, .iaload, 1, 0, 0, 0, 0), (40, .bipush 10, 2, 0, 0, 0, 0), (42, .if_icmp .ne 18, 3, 0, 60, 0, 0), (45, .aload_n 0, 1, 0, 0, 0, 0), (46, .getfield 24, 3, 0, 0, 0, 1), (49, .aload_n 0, 1, 0, 0, 0, 0), (50, .iload_n 1, 1, 0, 0, 0, 0), (51, .iconst 1, 1, 0, 0, 0, 0), (52, .iadd, 1, 0, 0, 0, 0), (53, .invokevirtual 54, 3, 0, 104, 1, 12), (56, .invokevirtual 90, 3, 0, 9, 1, 712), (59, .ireturn, 1, 1, 0, 0, 0), (60, .aload_n 0, 1, 0, 0, 0, 0), (61, .getfield 15, 3, 0, 0, 2, 1), (64, .iload_n 1, 1, 0, 0, 0, 0), (65, .iaload, 1, 0, 0, 0, 0), (66, .bipush 11, 2, 0, 0, 0, 0), (68, .if_icmp .ne 26, 3, 0, 94, 0, 0), (71, .aload_n 0, 1, 0, 0, 0, 0), (72, .getfield 24, 3, 0, 0, 0, 1), (75, .iconst 2, 1, 0, 0, 0, 0), (76, .aload_n 0, 1, 0, 0, 0, 0), (77, .iload_n 1, 1, 0, 0, 0, 0), (78, .iconst 1, 1, 0, 0, 0, 0), (79, .iadd, 1, 0, 0, 0, 0), (80, .invokevirtual 54, 3, 0, 104, 1, 12), (83, .aload_n 0, 1, 0, 0, 0, 0), (84, .iload_n 1, 1, 0, 0, 0, 0), (85, .iconst 2, 1, 0, 0, 0, 0), (86, .iadd, 1, 0, 0, 0, 0), (87, .invokevirtual 54, 3, 0, 104, 1, 12), (90, .invokevirtual 38, 3, 0, 3, 3, 712), (93, .ireturn, 1, 1, 0, 0, 0), (94, .iconst 1, 1, 0, 0, 0, 0), (95, .ireturn, 1, 1, 0, 0, 0)]
def am_m104 : am_M := (yX0_typeAt, cX0_typeAt, 2, (some .int), am_r104)
def am_r105 : List am_I := [(0, .iconst 1, 1, 0, 0, 0, 0), (1, .istore_n 2, 1, 0, 0, 0, 0), (2, .iload_n 1, 1, 0, 0, 0, 0), (3, .istore_n 3, 1, 0, 0, 0, 0), (4, .iload_n 2, 1, 15, 0, 0, 0), (5, .ifCond .le 36, 3, 0, 41, 0, 0), (8, .iload_n 3, 1, 0, 0, 0, 0), (9, .aload_n 0, 1, 0, 0, 0, 0), (10, .getfield 15, 3, 0, 0, 2, 1), (13, .arraylength, 1, 0, 0, 0, 0), (14, .if_icmp .ge 27, 3, 0, 41, 0, 0), (17, .iload_n 2, 1, 0, 0, 0, 0), (18, .aload_n 0, 1, 0, 0, 0, 0), (19, .getfield 15, 3, 0, 0, 2, 1), (22, .iload_n 3, 1, 0, 0, 0, 0), (23, .iaload, 1, 0, 0, 0, 0), (24, .iconst 5, 1, 0, 0, 0, 0), (25, .if_icmp .ge 7, 3, 0, 32, 0, 0), (28, .iconst (-1), 1, 0, 0, 0, 0), (29, .goto 4, 3, 0, 33, 0, 0), (32, .iconst 1, 1, 0, 0, 0, 0), (33, .iadd, 1, 0, 0, 0, 0), (34, .istore_n 2, 1, 0, 0, 0, 0), (35, .iinc 3 1, 3, 0, 0, 0, 0), (38, .goto (-34), 3, 0, 4, 0, 0), (41, .iload_n 3, 1, 0, 0, 0, 0), (42, .ireturn, 1, 1, 0, 0, 0)]
def am_m105 : am_M := (yX0_endOf, cX0_endOf, 4, (some .int), am_r105)
def am_r106 : List am_I := [(0, .aload_n 0, 1, 0, 0, 0, 0), (1, .invokespecial 3, 3, 0, 0, 0, 0), (4, .aload_n 0, 1, 0, 0, 0, 0), (5, .new 9, 3, 0, 7, 0, 0), (8, .dup, 1, 0, 0, 0, 0), (9, .invokespecial 11, 3, 0, 2, 0, 1), (12, .putfield 12, 3, 0, 8, 0, 7), (15, .aload_n 0, 1, 0, 0, 0, 0), (16, .new 16, 3, 0, 5, 0, 0), (19, .dup, 1, 0, 0, 0, 0), (20, .aload_n 0, 1, 0, 0, 0, 0), (21, .getfield 12, 3, 0, 8, 0, 1), (24, .invokespecial 18, 3, 0, 22, 1, 1), (27, .putfield 21, 3, 0, 8, 1, 7), (30, .aload_n 0, 1, 0, 0, 0, 0), (31, .new 25, 3, 0, 1, 0, 0), (34, .dup, 1, 0, 0, 0, 0), (35, .aload_n 0, 1, 0, 0, 0, 0), (36, .getfield 12, 3, 0, 8, 0, 1), (39, .aload_n 0, 1, 0, 0, 0, 0), (40, .getfield 21, 3, 0, 8, 1, 1), (43, .invokespecial 27, 3, 0, 29, 2, 1), (46, .putfield 30, 3, 0, 8, 2, 7), (49, .aload_n 0, 1, 0, 0, 0, 0), (50, .new 34, 3, 0, 3, 0, 0), (53, .dup, 1, 0, 0, 0, 0), (54, .aload_n 0, 1, 0, 0, 0, 0), (55, .getfield 12, 3, 0, 8, 0, 1), (58, .invokespecial 36, 3, 0, 49, 1, 1), (61, .putfield 37, 3, 0, 8, 3, 7), (64, .aload_n 0, 1, 0, 0, 0, 0), (65, .new 41, 3, 0, 4, 0, 0), (68, .dup, 1, 0, 0, 0, 0), (69, .aload_n 0, 1, 0, 0, 0, 0), (70, .getfield 12, 3, 0, 8, 0, 1), (73, .aload_n 0, 1, 0, 0, 0, 0), (74, .getfield 30, 3, 0, 8, 2, 1), (77, .aload_n 0, 1, 0, 0, 0, 0), (78, .getfield 37, 3, 0, 8, 3, 1), (81, .invokespecial 43, 3, 0, 67, 3, 1), (84, .putfield 46, 3, 0, 8, 4, 7), (87, .aload_n 0, 1, 0, 0, 0, 0), (88, .new 50, 3, 0, 6, 0, 0), (91, .dup, 1, 0, 0, 0, 0), (92, .aload_n 0, 1, 0, 0, 0, 0), (93, .getfield 12, 3, 0, 8, 0, 1), (96, .aload_n 0, 1, 0, 0, 0, 0), (97, .getfield 21, 3, 0, 8, 1, 1), (100, .aload_n 0, 1, 0, 0, 0, 0), (101, .getfield 30, 3, 0, 8, 2, 1), (104, .aload_n 0, 1, 0, 0, 0, 0), (105, .getfield 37, 3, 0, 8, 3, 1), (108, .aload_n 0, 1, 0, 0, 0, 0), (109, .getfield 46, 3, 0, 8, 4, 1), (112, .invokespecial 52, 3, 0, 78, 5, 1), (115, .putfield 55, 3, 0, 8, 5, 7), (118, .aload_n 0, 1, 0, 0, 0, 0), (119, .new 59, 3, 0, 0, 0, 0), (122, .dup, 1, 0, 0, 0, 0), (123, .aload_n 0, 1, 0, 0, 0, 0), (124, .getfield 12, 3, 0, 8, 0, 1), (127, .aload_n 0, 1, 0, 0, 0, 0), (128, .getfield 37, 3, 0, 8, 3, 1), (131, .invokespecial 61, 3, 0, 96, 2, 1), (134, .putfield 64, 3, 0, 8, 6, 7), (137, .aload_n 0, 1, 0, 0, 0, 0), (138, .bipush 64, 2, 0, 0, 0, 0), (140, .newarray .int, 2, 0, 0, 0, 0), (142, .putfield 68, 3, 0, 8, 7, 1), (145, .aload_n 0, 1, 0, 0, 0, 0), (146, .iconst 0, 1, 0, 0, 0, 0), (147, .putfield 72, 3, 0, 8, 8, 0), (150, .aload_n 0, 1, 0, 0, 0, 0), (151, .iconst (-1), 1, 0, 0, 0, 0), (152, .putfield 76, 3, 0, 8, 9, 0), (155, .return_, 1, 1, 0, 0, 0)]
def am_m106 : am_M := (yX8_init, cX8_init, 1, none, am_r106)
def am_r107 : List am_I := [(0, .aload_n 0, 1, 0, 0, 0, 0), (1, .getfield 72, 3, 0, 8, 8, 0), (4, .sipush 20000, 3, 0, 0, 0, 0), (7, .if_icmp .lt 5, 3, 0, 12, 0, 0), (10, .iconst 0, 1, 0, 0, 0, 0), (11, .ireturn, 1, 1, 1, 0, 0), (12, .aload_n 0, 1, 0, 0, 0, 0), (13, .getfield 72, 3, 0, 8, 8, 0), (16, .aload_n 0, 1, 0, 0, 0, 0), (17, .getfield 68, 3, 0, 8, 7, 1), (20, .arraylength, 1, 0, 0, 0, 0), (21, .if_icmp .ne 14, 3, 0, 35, 0, 0), (24, .aload_n 0, 1, 0, 0, 0, 0), (25, .aload_n 0, 1, 0, 0, 0, 0), (26, .getfield 68, 3, 0, 8, 7, 1), (29, .invokestatic 79, 3, 0, 118, 1, 23), (32, .putfield 68, 3, 0, 8, 7, 1), (35, .aload_n 0, 1, 0, 0, 0, 0), (36, .getfield 68, 3, 0, 8, 7, 1), (39, .aload_n 0, 1, 0, 0, 0, 0), (40, .getfield 72, 3, 0, 8, 8, 0), (43, .iload_n 1, 1, 0, 0, 0, 0), (44, .iastore, 1, 0, 0, 0, 0), (45, .aload_n 0, 1, 0, 0, 0, 0), (46, .dup, 1, 0, 0, 0, 0), (47, .getfield 72, 3, 0, 8, 8, 0), (50, .iconst 1, 1, 0, 0, 0, 0), (51, .iadd, 1, 0, 0, 0, 0), (52, .putfield 72, 3, 0, 8, 8, 0), (55, .iconst 1, 1, 0, 0, 0, 0), (56, .ireturn, 1, 1, 1, 0, 0)]
def am_m107 : am_M := (yX8_say, cX8_say, 2, (some .boolean), am_r107)
def am_r108 : List am_I := [(0, .iconst 0, 1, 0, 0, 0, 0), (1, .istore_n 1, 1, 0, 0, 0, 0), (2, .iconst 0, 1, 0, 0, 0, 0), (3, .istore_n 2, 1, 0, 0, 0, 0), (4, .aload_n 0, 1, 0, 0, 0, 0), (5, .iconst (-1), 1, 0, 0, 0, 0), (6, .putfield 76, 3, 0, 8, 9, 0), (9, .iconst 0, 1, 0, 0, 0, 0), (10, .istore_n 3, 1, 0, 0, 0, 0), (11, .iload_n 3, 1, 17, 0, 0, 0), (12, .sipush 20000, 3, 0, 0, 0, 0), (15, .if_icmp .ge 122, 3, 0, 137, 0, 0), (18, .iload_n 2, 1, 0, 0, 0, 0), (19, .aload_n 0, 1, 0, 0, 0, 0), (20, .getfield 72, 3, 0, 8, 8, 0), (23, .if_icmp .ge 114, 3, 0, 137, 0, 0), (26, .aload_n 0, 1, 0, 0, 0, 0), (27, .getfield 76, 3, 0, 8, 9, 0), (30, .iconst (-1), 1, 0, 0, 0, 0), (31, .if_icmp .ne 106, 3, 0, 137, 0, 0), (34, .aload_n 0, 1, 0, 0, 0, 0), (35, .getfield 12, 3, 0, 8, 0, 1), (38, .getfield 83, 3, 0, 7, 8, 2), (41, .istore 4, 2, 0, 0, 0, 0), (43, .aload_n 0, 1, 0, 0, 0, 0), (44, .getfield 46, 3, 0, 8, 4, 1), (47, .getfield 86, 3, 0, 4, 3, 2), (50, .istore 5, 2, 0, 0, 0, 0), (52, .aload_n 0, 1, 0, 0, 0, 0), (53, .getfield 21, 3, 0, 8, 1, 1), (56, .invokevirtual 87, 3, 0, 27, 0, 502), (59, .aload_n 0, 1, 0, 0, 0, 0), (60, .iload_n 2, 1, 0, 0, 0, 0), (61, .invokevirtual 90, 3, 0, 116, 1, 812), (64, .istore 6, 2, 0, 0, 0, 0), (66, .iload 6, 2, 0, 0, 0, 0), (68, .ifCond .eq 11, 3, 0, 79, 0, 0), (71, .aload_n 0, 1, 0, 0, 0, 0), (72, .iload_n 2, 1, 0, 0, 0, 0), (73, .invokevirtual 94, 3, 0, 117, 1, 812), (76, .ifCond .ne 36, 3, 0, 112, 0, 0), (79, .aload_n 0, 1, 0, 0, 0, 0), (80, .iload_n 2, 1, 0, 0, 0, 0), (81, .putfield 76, 3, 0, 8, 9, 0), (84, .aload_n 0, 1, 0, 0, 0, 0), (85, .getfield 46, 3, 0, 8, 4, 1), (88, .iload 5, 2, 0, 0, 0, 0), (90, .invokevirtual 98, 3, 0, 73, 1, 402), (93, .aload_n 0, 1, 0, 0, 0, 0), (94, .getfield 12, 3, 0, 8, 0, 1), (97, .iload 4, 2, 0, 0, 0, 0), (99, .invokevirtual 102, 3, 0, 7, 1, 702), (102, .aload_n 0, 1, 0, 0, 0, 0), (103, .getfield 21, 3, 0, 8, 1, 1), (106, .invokevirtual 103, 3, 0, 28, 0, 502), (109, .goto 17, 3, 0, 126, 0, 0), (112, .aload_n 0, 1, 0, 0, 0, 0), (113, .getfield 68, 3, 0, 8, 7, 1), (116, .iload_n 2, 1, 0, 0, 0, 0), (117, .iaload, 1, 0, 0, 0, 0), (118, .bipush 10, 2, 0, 0, 0, 0), (120, .if_icmp .lt 6, 3, 0, 126, 0, 0), (123, .iinc 1 1, 3, 0, 0, 0, 0), (126, .iload_n 2, 1, 0, 0, 0, 0), (127, .iload 6, 2, 0, 0, 0, 0), (129, .iadd, 1, 0, 0, 0, 0), (130, .istore_n 2, 1, 0, 0, 0, 0), (131, .iinc 3 1, 3, 0, 0, 0, 0), (134, .goto (-123), 3, 0, 11, 0, 0), (137, .aload_n 0, 1, 0, 0, 0, 0), (138, .iconst 0, 1, 0, 0, 0, 0), (139, .putfield 72, 3, 0, 8, 8, 0), (142, .iload_n 1, 1, 0, 0, 0, 0), (143, .ireturn, 1, 1, 0, 0, 0)]
def am_m108 : am_M := (yX8_judge, cX8_judge, 7, (some .int), am_r108)
def am_r109 : List am_I := [(0, .aload_n 0, 1, 0, 0, 0, 0), (1, .getfield 76, 3, 0, 8, 9, 0), (4, .ireturn, 1, 1, 0, 0, 0)]
def am_m109 : am_M := (yX8_fault, cX8_fault, 1, (some .int), am_r109)
def am_r110 : List am_I := [(0, .aload_n 0, 1, 0, 0, 0, 0), (1, .getfield 46, 3, 0, 8, 4, 1), (4, .getfield 86, 3, 0, 4, 3, 2), (7, .ireturn, 1, 1, 0, 0, 0)]
def am_m110 : am_M := (yX8_size, cX8_size, 1, (some .int), am_r110)
def am_r111 : List am_I := [(0, .aload_n 0, 1, 0, 0, 0, 0), (1, .getfield 46, 3, 0, 8, 4, 1), (4, .iload_n 1, 1, 0, 0, 0, 0), (5, .invokevirtual 106, 3, 0, 68, 1, 412), (8, .ifCond .ne 13, 3, 0, 21, 0, 0), (11, .new 109, 3, 1, 0, 0, 0), (21, .aload_n 0, 1, 0, 0, 0, 0), (22, .getfield 46, 3, 0, 8, 4, 1), (25, .iload_n 1, 1, 0, 0, 0, 0), (26, .invokevirtual 116, 3, 0, 70, 1, 412), (29, .ireturn, 1, 1, 0, 0, 0)]
def am_m111 : am_M := (yX8_hypotheses, cX8_hypotheses, 2, (some .int), am_r111)
def am_r112 : List am_I := [(0, .aload_n 0, 1, 0, 0, 0, 0), (1, .getfield 46, 3, 0, 8, 4, 1), (4, .iload_n 1, 1, 0, 0, 0, 0), (5, .iload_n 2, 1, 0, 0, 0, 0), (6, .iload_n 3, 1, 0, 0, 0, 0), (7, .invokevirtual 119, 3, 0, 71, 3, 412), (10, .istore 4, 2, 0, 0, 0, 0), (12, .iload 4, 2, 0, 0, 0, 0), (14, .iconst (-1), 1, 0, 0, 0, 0), (15, .if_icmp .ne 13, 3, 0, 28, 0, 0), (18, .new 109, 3, 1, 0, 0, 0), (28, .aload_n 0, 1, 0, 0, 0, 0), (29, .getfield 37, 3, 0, 8, 3, 1), (32, .getfield 125, 3, 0, 3, 1, 3), (35, .iload 4, 2, 0, 0, 0, 0), (37, .iaload, 1, 0, 0, 0, 0), (38, .ireturn, 1, 1, 0, 0, 0)]
def am_m112 : am_M := (yX8_symbol, cX8_symbol, 5, (some .int), am_r112)
def am_r113 : List am_I := [(0, .aload_n 0, 1, 0, 0, 0, 0), (1, .getfield 46, 3, 0, 8, 4, 1), (4, .iload_n 1, 1, 0, 0, 0, 0), (5, .iload_n 2, 1, 0, 0, 0, 0), (6, .iload_n 3, 1, 0, 0, 0, 0), (7, .invokevirtual 119, 3, 0, 71, 3, 412), (10, .istore 5, 2, 0, 0, 0, 0), (12, .iload 5, 2, 0, 0, 0, 0), (14, .iconst (-1), 1, 0, 0, 0, 0), (15, .if_icmp .eq 31, 3, 0, 46, 0, 0), (18, .iload 4, 2, 0, 0, 0, 0), (20, .ifCond .lt 26, 3, 0, 46, 0, 0), (23, .iload 4, 2, 0, 0, 0, 0), (25, .aload_n 0, 1, 0, 0, 0, 0), (26, .getfield 12, 3, 0, 8, 0, 1), (29, .getfield 128, 3, 0, 7, 3, 3), (32, .aload_n 0, 1, 0, 0, 0, 0), (33, .getfield 37, 3, 0, 8, 3, 1), (36, .getfield 131, 3, 0, 3, 2, 3), (39, .iload 5, 2, 0, 0, 0, 0), (41, .iaload, 1, 0, 0, 0, 0), (42, .iaload, 1, 0, 0, 0, 0), (43, .if_icmp .lt 13, 3, 0, 56, 0, 0), (46, .new 109, 3, 1, 0, 0, 0), (56, .aload_n 0, 1, 0, 0, 0, 0), (57, .getfield 12, 3, 0, 8, 0, 1), (60, .aload_n 0, 1, 0, 0, 0, 0), (61, .getfield 37, 3, 0, 8, 3, 1), (64, .getfield 131, 3, 0, 3, 2, 3), (67, .iload 5, 2, 0, 0, 0, 0), (69, .iaload, 1, 0, 0, 0, 0), (70, .iload 4, 2, 0, 0, 0, 0), (72, .invokevirtual 136, 3, 0, 10, 2, 712), (75, .ireturn, 1, 1, 0, 0, 0)]
def am_m113 : am_M := (yX8_typeSymbol, cX8_typeSymbol, 6, (some .int), am_r113)
def am_r114 : List am_I := [(0, .aload_n 0, 1, 0, 0, 0, 0), (1, .getfield 46, 3, 0, 8, 4, 1), (4, .iload_n 1, 1, 0, 0, 0, 0), (5, .invokevirtual 140, 3, 0, 72, 1, 412), (8, .ifCond .ne 13, 3, 0, 21, 0, 0), (11, .new 143, 3, 1, 0, 0, 0), (21, .aload_n 0, 1, 0, 0, 0, 0), (22, .getfield 12, 3, 0, 8, 0, 1), (25, .aload_n 0, 1, 0, 0, 0, 0), (26, .getfield 46, 3, 0, 8, 4, 1), (29, .getfield 148, 3, 0, 4, 6, 3), (32, .iload_n 1, 1, 0, 0, 0, 0), (33, .iaload, 1, 0, 0, 0, 0), (34, .invokevirtual 102, 3, 0, 7, 1, 702), (37, .aload_n 0, 1, 0, 0, 0, 0), (38, .getfield 30, 3, 0, 8, 2, 1), (41, .aload_n 0, 1, 0, 0, 0, 0), (42, .getfield 46, 3, 0, 8, 4, 1), (45, .getfield 151, 3, 0, 4, 7, 3), (48, .iload_n 1, 1, 0, 0, 0, 0), (49, .iaload, 1, 0, 0, 0, 0), (50, .aload_n 0, 1, 0, 0, 0, 0), (51, .getfield 46, 3, 0, 8, 4, 1), (54, .getfield 154, 3, 0, 4, 8, 3), (57, .iload_n 1, 1, 0, 0, 0, 0), (58, .iaload, 1, 0, 0, 0, 0), (59, .invokevirtual 157, 3, 0, 30, 2, 102), (62, .aload_n 0, 1, 0, 0, 0, 0), (63, .getfield 46, 3, 0, 8, 4, 1), (66, .iload_n 1, 1, 0, 0, 0, 0), (67, .invokevirtual 98, 3, 0, 73, 1, 402), (70, .return_, 1, 1, 0, 0, 0)]
def am_m114 : am_M := (yX8_cut, cX8_cut, 2, none, am_r114)
def am_r115 : List am_I := [(0, .aload_n 0, 1, 0, 0, 0, 0), (1, .getfield 46, 3, 0, 8, 4, 1), (4, .iload_n 1, 1, 0, 0, 0, 0), (5, .invokevirtual 106, 3, 0, 68, 1, 412), (8, .ifCond .ne 13, 3, 0, 21, 0, 0), (11, .new 109, 3, 1, 0, 0, 0), (21, .aload_n 0, 1, 0, 0, 0, 0), (22, .getfield 46, 3, 0, 8, 4, 1), (25, .iload_n 1, 1, 0, 0, 0, 0), (26, .invokevirtual 116, 3, 0, 70, 1, 412), (29, .ifCond .le 13, 3, 0, 42, 0, 0), (32, .new 160, 3, 1, 0, 0, 0), (42, .aload_n 0, 1, 0, 0, 0, 0), (43, .getfield 46, 3, 0, 8, 4, 1), (46, .iload_n 2, 1, 0, 0, 0, 0), (47, .invokevirtual 140, 3, 0, 72, 1, 412), (50, .ifCond .eq 8, 3, 0, 58, 0, 0), (53, .iload_n 1, 1, 0, 0, 0, 0), (54, .iload_n 2, 1, 0, 0, 0, 0), (55, .if_icmp .ge 13, 3, 0, 68, 0, 0), (58, .new 143, 3, 1, 0, 0, 0), (68, .aload_n 0, 1, 0, 0, 0, 0), (69, .getfield 37, 3, 0, 8, 3, 1), (72, .getfield 165, 3, 0, 3, 4, 3), (75, .aload_n 0, 1, 0, 0, 0, 0), (76, .getfield 46, 3, 0, 8, 4, 1), (79, .getfield 168, 3, 0, 4, 5, 3), (82, .iload_n 1, 1, 0, 0, 0, 0), (83, .iaload, 1, 0, 0, 0, 0), (84, .iaload, 1, 0, 0, 0, 0), (85, .istore_n 3, 1, 0, 0, 0, 0), (86, .aload_n 0, 1, 0, 0, 0, 0), (87, .getfield 37, 3, 0, 8, 3, 1), (90, .getfield 165, 3, 0, 3, 4, 3), (93, .aload_n 0, 1, 0, 0, 0, 0), (94, .getfield 46, 3, 0, 8, 4, 1), (97, .getfield 168, 3, 0, 4, 5, 3), (100, .iload_n 1, 1, 0, 0, 0, 0), (101, .iconst 1, 1, 0, 0, 0, 0), (102, .iadd, 1, 0, 0, 0, 0), (103, .iaload, 1, 0, 0, 0, 0), (104, .iaload, 1, 0, 0, 0, 0), (105, .istore 4, 2, 0, 0, 0, 0), (107, .aload_n 0, 1, 0, 0, 0, 0), (108, .getfield 12, 3, 0, 8, 0, 1), (111, .invokevirtual 171, 3, 0, 11, 0, 702), (114, .aload_n 0, 1, 0, 0, 0, 0), (115, .getfield 37, 3, 0, 8, 3, 1), (118, .iload_n 3, 1, 0, 0, 0, 0), (119, .iload 4, 2, 0, 0, 0, 0), (121, .invokevirtual 174, 3, 0, 66, 2, 302), (124, .aload_n 0, 1, 0, 0, 0, 0), (125, .getfield 12, 3, 0, 8, 0, 1), (128, .invokevirtual 177, 3, 0, 13, 0, 702), (131, .aload_n 0, 1, 0, 0, 0, 0), (132, .getfield 12, 3, 0, 8, 0, 1), (135, .aload_n 0, 1, 0, 0, 0, 0), (136, .getfield 46, 3, 0, 8, 4, 1), (139, .getfield 148, 3, 0, 4, 6, 3), (142, .iload_n 2, 1, 0, 0, 0, 0), (143, .iaload, 1, 0, 0, 0, 0), (144, .invokevirtual 180, 3, 0, 18, 1, 702), (147, .aload_n 0, 1, 0, 0, 0, 0), (148, .getfield 30, 3, 0, 8, 2, 1), (151, .aload_n 0, 1, 0, 0, 0, 0), (152, .getfield 46, 3, 0, 8, 4, 1), (155, .getfield 151, 3, 0, 4, 7, 3), (158, .iload_n 2, 1, 0, 0, 0, 0), (159, .iaload, 1, 0, 0, 0, 0), (160, .aload_n 0, 1, 0, 0, 0, 0), (161, .getfield 46, 3, 0, 8, 4, 1), (164, .getfield 154, 3, 0, 4, 8, 3), (167, .iload_n 2, 1, 0, 0, 0, 0), (168, .iaload, 1, 0, 0, 0, 0), (169, .invokevirtual 157, 3, 0, 30, 2, 102), (172, .aload_n 0, 1, 0, 0, 0, 0), (173, .getfield 46, 3, 0, 8, 4, 1), (176, .iload_n 2, 1, 0, 0, 0, 0), (177, .invokevirtual 98, 3, 0, 73, 1, 402), (180, .aload_n 0, 1, 0, 0, 0, 0), (181, .getfield 37, 3, 0, 8, 3, 1), (184, .iload_n 3, 1, 0, 0, 0, 0), (185, .iload 4, 2, 0, 0, 0, 0), (187, .invokevirtual 183, 3, 0, 55, 2, 302), (190, .aload_n 0, 1, 0, 0, 0, 0), (191, .getfield 46, 3, 0, 8, 4, 1), (194, .invokevirtual 186, 3, 0, 76, 0, 412), (197, .pop, 1, 0, 0, 0, 0), (198, .return_, 1, 1, 0, 0, 0)]
def am_m115 : am_M := (yX8_keep, cX8_keep, 5, none, am_r115)
def am_r116 : List am_I := [(0, .aload_n 0, 1, 0, 0, 0, 0), (1, .getfield 68, 3, 0, 8, 7, 1), (4, .iload_n 1, 1, 0, 0, 0, 0), (5, .iaload, 1, 0, 0, 0, 0), (6, .istore_n 2, 1, 0, 0, 0, 0), (7, .iload_n 2, 1, 0, 0, 0, 0), (8, .ifCond .lt 11, 3, 0, 19, 0, 0), (11, .iload_n 2, 1, 0, 0, 0, 0), (12, .getstatic 190, 3, 0, 1, 0, 0), (15, .arraylength, 1, 0, 0, 0, 0), (16, .if_icmp .lt 5, 3, 0, 21, 0, 0), (19, .iconst 0, 1, 0, 0, 0, 0), (20, .ireturn, 1, 1, 0, 0, 0), (21, .getstatic 190, 3, 0, 1, 0, 0), (24, .iload_n 2, 1, 0, 0, 0, 0), (25, .iaload, 1, 0, 0, 0, 0), (26, .istore_n 3, 1, 0, 0, 0, 0), (27, .iload_n 2, 1, 0, 0, 0, 0), (28, .iconst 1, 1, 0, 0, 0, 0), (29, .if_icmp .ne 50, 3, 0, 79, 0, 0), (32, .iload_n 1, 1, 0, 0, 0, 0), (33, .iconst 1, 1, 0, 0, 0, 0), (34, .iadd, 1, 0, 0, 0, 0), (35, .aload_n 0, 1, 0, 0, 0, 0), (36, .getfield 72, 3, 0, 8, 8, 0), (39, .if_icmp .ge 40, 3, 0, 79, 0, 0), (42, .aload_n 0, 1, 0, 0, 0, 0), (43, .getfield 21, 3, 0, 8, 1, 1), (46, .aload_n 0, 1, 0, 0, 0, 0), (47, .getfield 68, 3, 0, 8, 7, 1), (50, .iload_n 1, 1, 0, 0, 0, 0), (51, .iconst 1, 1, 0, 0, 0, 0), (52, .iadd, 1, 0, 0, 0, 0), (53, .iaload, 1, 0, 0, 0, 0), (54, .invokevirtual 193, 3, 0, 23, 1, 512), (57, .ifCond .eq 22, 3, 0, 79, 0, 0), (60, .iconst 2, 1, 0, 0, 0, 0), (61, .aload_n 0, 1, 0, 0, 0, 0), (62, .getfield 21, 3, 0, 8, 1, 1), (65, .getfield 196, 3, 0, 5, 0, 3), (68, .aload_n 0, 1, 0, 0, 0, 0), (69, .getfield 68, 3, 0, 8, 7, 1), (72, .iload_n 1, 1, 0, 0, 0, 0), (73, .iconst 1, 1, 0, 0, 0, 0), (74, .iadd, 1, 0, 0, 0, 0), (75, .iaload, 1, 0, 0, 0, 0), (76, .iaload, 1, 0, 0, 0, 0), (77, .iadd, 1, 0, 0, 0, 0), (78, .istore_n 3, 1, 0, 0, 0, 0), (79, .iload_n 2, 1, 17, 0, 0, 0), (80, .bipush 19, 2, 0, 0, 0, 0), (82, .if_icmp .ne 51, 3, 0, 133, 0, 0), (85, .iload_n 1, 1, 0, 0, 0, 0), (86, .iconst 2, 1, 0, 0, 0, 0), (87, .iadd, 1, 0, 0, 0, 0), (88, .aload_n 0, 1, 0, 0, 0, 0), (89, .getfield 72, 3, 0, 8, 8, 0), (92, .if_icmp .ge 41, 3, 0, 133, 0, 0), (95, .aload_n 0, 1, 0, 0, 0, 0), (96, .getfield 68, 3, 0, 8, 7, 1), (99, .iload_n 1, 1, 0, 0, 0, 0), (100, .iconst 2, 1, 0, 0, 0, 0), (101, .iadd, 1, 0, 0, 0, 0), (102, .iaload, 1, 0, 0, 0, 0), (103, .ifCond .lt 30, 3, 0, 133, 0, 0), (106, .aload_n 0, 1, 0, 0, 0, 0), (107, .getfield 68, 3, 0, 8, 7, 1), (110, .iload_n 1, 1, 0, 0, 0, 0), (111, .iconst 2, 1, 0, 0, 0, 0), (112, .iadd, 1, 0, 0, 0, 0), (113, .iaload, 1, 0, 0, 0, 0), (114, .sipush 250, 3, 0, 0, 0, 0), (117, .if_icmp .gt 16, 3, 0, 133, 0, 0), (120, .iconst 3, 1, 0, 0, 0, 0), (121, .iconst 2, 1, 0, 0, 0, 0), (122, .aload_n 0, 1, 0, 0, 0, 0), (123, .getfield 68, 3, 0, 8, 7, 1), (126, .iload_n 1, 1, 0, 0, 0, 0), (127, .iconst 2, 1, 0, 0, 0, 0), (128, .iadd, 1, 0, 0, 0, 0), (129, .iaload, 1, 0, 0, 0, 0), (130, .imul, 1, 0, 0, 0, 0), (131, .iadd, 1, 0, 0, 0, 0), (132, .istore_n 3, 1, 0, 0, 0, 0), (133, .iload_n 3, 1, 0, 0, 0, 0), (134, .aload_n 0, 1, 0, 0, 0, 0), (135, .getfield 72, 3, 0, 8, 8, 0), (138, .iload_n 1, 1, 0, 0, 0, 0), (139, .isub, 1, 0, 0, 0, 0), (140, .if_icmp .gt 7, 3, 0, 147, 0, 0), (143, .iload_n 3, 1, 0, 0, 0, 0), (144, .goto 4, 3, 0, 148, 0, 0), (147, .iconst 0, 1, 0, 0, 0, 0), (148, .ireturn, 1, 1, 0, 0, 0)]
def am_m116 : am_M := (yX8_entryLength, cX8_entryLength, 4, (some .int), am_r116)
def am_r117 : List am_I := [(0, .aload_n 0, 1, 0, 0, 0, 0), (1, .getfield 68, 3, 0, 8, 7, 1), (4, .iload_n 1, 1, 0, 0, 0, 0), (5, .iconst 1, 1, 0, 0, 0, 0), (6, .iadd, 1, 0, 0, 0, 0), (7, .iaload, 1, 0, 0, 0, 0), (8, .istore_n 2, 1, 0, 0, 0, 0), (9, .iload_n 1, 1, 0, 0, 0, 0), (10, .iconst 2, 1, 0, 0, 0, 0), (11, .iadd, 1, 0, 0, 0, 0), (12, .aload_n 0, 1, 0, 0, 0, 0), (13, .getfield 72, 3, 0, 8, 8, 0), (16, .if_icmp .ge 14, 3, 0, 30, 0, 0), (19, .aload_n 0, 1, 0, 0, 0, 0), (20, .getfield 68, 3, 0, 8, 7, 1), (23, .iload_n 1, 1, 0, 0, 0, 0), (24, .iconst 2, 1, 0, 0, 0, 0), (25, .iadd, 1, 0, 0, 0, 0), (26, .iaload, 1, 0, 0, 0, 0), (27, .goto 4, 3, 0, 31, 0, 0), (30, .iconst (-1), 1, 0, 0, 0, 0), (31, .istore_n 3, 1, 0, 0, 0, 0), (32, .iload_n 1, 1, 0, 0, 0, 0), (33, .iconst 3, 1, 0, 0, 0, 0), (34, .iadd, 1, 0, 0, 0, 0), (35, .aload_n 0, 1, 0, 0, 0, 0), (36, .getfield 72, 3, 0, 8, 8, 0), (39, .if_icmp .ge 14, 3, 0, 53, 0, 0), (42, .aload_n 0, 1, 0, 0, 0, 0), (43, .getfield 68, 3, 0, 8, 7, 1), (46, .iload_n 1, 1, 0, 0, 0, 0), (47, .iconst 3, 1, 0, 0, 0, 0), (48, .iadd, 1, 0, 0, 0, 0), (49, .iaload, 1, 0, 0, 0, 0), (50, .goto 4, 3, 0, 54, 0, 0), (53, .iconst (-1), 1, 0, 0, 0, 0), (54, .istore 4, 2, 17, 0, 0, 0), (56, .aload_n 0, 1, 0, 0, 0, 0), (57, .getfield 68, 3, 0, 8, 7, 1), (60, .iload_n 1, 1, 0, 0, 0, 0), (61, .iaload, 1, 0, 0, 0, 0), (62, .tableswitch 331 0 22 #[106, 115, 127, 137, 147, 157, 167, 331, 331, 331, 177, 186, 196, 206, 216, 225, 234, 244, 254, 266, 283, 292, 301], 106, 0, 0, 0, 0), (168, .aload_n 0, 1, 0, 0, 0, 0), (169, .getfield 30, 3, 0, 8, 2, 1), (172, .iload_n 2, 1, 0, 0, 0, 0), (173, .invokevirtual 199, 3, 0, 35, 1, 112), (176, .ireturn, 1, 1, 1, 0, 0), (177, .aload_n 0, 1, 0, 0, 0, 0), (178, .getfield 30, 3, 0, 8, 2, 1), (181, .iload_n 2, 1, 0, 0, 0, 0), (182, .iload_n 3, 1, 0, 0, 0, 0), (183, .iload 4, 2, 0, 0, 0, 0), (185, .invokevirtual 202, 3, 0, 36, 3, 112), (188, .ireturn, 1, 1, 1, 0, 0), (189, .aload_n 0, 1, 0, 0, 0, 0), (190, .getfield 30, 3, 0, 8, 2, 1), (193, .iload_n 2, 1, 0, 0, 0, 0), (194, .iload_n 3, 1, 0, 0, 0, 0), (195, .invokevirtual 206, 3, 0, 37, 2, 112), (198, .ireturn, 1, 1, 1, 0, 0), (199, .aload_n 0, 1, 0, 0, 0, 0), (200, .getfield 30, 3, 0, 8, 2, 1), (203, .iload_n 2, 1, 0, 0, 0, 0), (204, .iload_n 3, 1, 0, 0, 0, 0), (205, .invokevirtual 210, 3, 0, 38, 2, 112), (208, .ireturn, 1, 1, 1, 0, 0), (209, .aload_n 0, 1, 0, 0, 0, 0), (210, .getfield 30, 3, 0, 8, 2, 1), (213, .iload_n 2, 1, 0, 0, 0, 0), (214, .iload_n 3, 1, 0, 0, 0, 0), (215, .invokevirtual 213, 3, 0, 39, 2, 112), (218, .ireturn, 1, 1, 1, 0, 0), (219, .aload_n 0, 1, 0, 0, 0, 0), (220, .getfield 30, 3, 0, 8, 2, 1), (223, .iload_n 2, 1, 0, 0, 0, 0), (224, .iload_n 3, 1, 0, 0, 0, 0), (225, .invokevirtual 216, 3, 0, 40, 2, 112), (228, .ireturn, 1, 1, 1, 0, 0), (229, .aload_n 0, 1, 0, 0, 0, 0), (230, .getfield 30, 3, 0, 8, 2, 1), (233, .iload_n 2, 1, 0, 0, 0, 0), (234, .iload_n 3, 1, 0, 0, 0, 0), (235, .invokevirtual 219, 3, 0, 41, 2, 112), (238, .ireturn, 1, 1, 1, 0, 0), (239, .aload_n 0, 1, 0, 0, 0, 0), (240, .getfield 55, 3, 0, 8, 5, 1), (243, .iload_n 2, 1, 0, 0, 0, 0), (244, .invokevirtual 222, 3, 0, 79, 1, 612), (247, .ireturn, 1, 1, 1, 0, 0), (248, .aload_n 0, 1, 0, 0, 0, 0), (249, .getfield 55, 3, 0, 8, 5, 1), (252, .iload_n 2, 1, 0, 0, 0, 0), (253, .iload_n 3, 1, 0, 0, 0, 0), (254, .invokevirtual 225, 3, 0, 80, 2, 612), (257, .ireturn, 1, 1, 1, 0, 0), (258, .aload_n 0, 1, 0, 0, 0, 0), (259, .getfield 55, 3, 0, 8, 5, 1), (262, .iload_n 2, 1, 0, 0, 0, 0), (263, .iload_n 3, 1, 0, 0, 0, 0), (264, .invokevirtual 228, 3, 0, 81, 2, 612), (267, .ireturn, 1, 1, 1, 0, 0), (268, .aload_n 0, 1, 0, 0, 0, 0), (269, .getfield 55, 3, 0, 8, 5, 1), (272, .iload_n 2, 1, 0, 0, 0, 0), (273, .iload_n 3, 1, 0, 0, 0, 0), (274, .invokevirtual 231, 3, 0, 82, 2, 612), (277, .ireturn, 1, 1, 1, 0, 0), (278, .aload_n 0, 1, 0, 0, 0, 0), (279, .getfield 55, 3, 0, 8, 5, 1), (282, .iload_n 2, 1, 0, 0, 0, 0), (283, .invokevirtual 234, 3, 0, 83, 1, 612), (286, .ireturn, 1, 1, 1, 0, 0), (287, .aload_n 0, 1, 0, 0, 0, 0), (288, .getfield 55, 3, 0, 8, 5, 1), (291, .iload_n 2, 1, 0, 0, 0, 0), (292, .invokevirtual 237, 3, 0, 84, 1, 612), (295, .ireturn, 1, 1, 1, 0, 0), (296, .aload_n 0, 1, 0, 0, 0, 0), (297, .getfield 55, 3, 0, 8, 5, 1), (300, .iload_n 2, 1, 0, 0, 0, 0), (301, .iload_n 3, 1, 0, 0, 0, 0), (302, .invokevirtual 240, 3, 0, 85, 2, 612), (305, .ireturn, 1, 1, 1, 0, 0), (306, .aload_n 0, 1, 0, 0, 0, 0), (307, .getfield 55, 3, 0, 8, 5, 1), (310, .iload_n 2, 1, 0, 0, 0, 0), (311, .iload_n 3, 1, 0, 0, 0, 0), (312, .invokevirtual 243, 3, 0, 86, 2, 612), (315, .ireturn, 1, 1, 1, 0, 0), (316, .aload_n 0, 1, 0, 0, 0, 0), (317, .getfield 55, 3, 0, 8, 5, 1), (320, .iload_n 2, 1, 0, 0, 0, 0), (321, .iload_n 3, 1, 0, 0, 0, 0), (322, .iload 4, 2, 0, 0, 0, 0), (324, .invokevirtual 246, 3, 0, 87, 3, 612), (327, .ireturn, 1, 1, 1, 0, 0), (328, .aload_n 0, 1, 0, 0, 0, 0), (329, .getfield 55, 3, 0, 8, 5, 1), (332, .iload_n 2, 1, 0, 0, 0, 0), (333, .aload_n 0, 1, 0, 0, 0, 0), (334, .getfield 68, 3, 0, 8, 7, 1), (337, .iload_n 1, 1, 0, 0, 0, 0), (338, .iconst 3, 1, 0, 0, 0, 0), (339, .iadd, 1, 0, 0, 0, 0), (340, .iload_n 3, 1, 0, 0, 0, 0), (341, .invokevirtual 249, 3, 0, 89, 4, 612), (344, .ireturn, 1, 1, 1, 0, 0), (345, .aload_n 0, 1, 0, 0, 0, 0), (346, .getfield 55, 3, 0, 8, 5, 1), (349, .iload_n 2, 1, 0, 0, 0, 0), (350, .invokevirtual 253, 3, 0, 91, 1, 612), (353, .ireturn, 1, 1, 1, 0, 0), (354, .aload_n 0, 1, 0, 0, 0, 0), (355, .getfield 55, 3, 0, 8, 5, 1), (358, .iload_n 2, 1, 0, 0, 0, 0), (359, .invokevirtual 256, 3, 0, 93, 1, 612), (362, .ireturn, 1, 1, 1, 0, 0), (363, .aload_n 0, 1, 0, 0, 0, 0), (364, .getfield 64, 3, 0, 8, 6, 1), (367, .iload_n 2, 1, 0, 0, 0, 0), (368, .invokevirtual 259, 3, 0, 97, 1, 12), (371, .ifCond .ne 5, 3, 0, 376, 0, 0), (374, .iconst 0, 1, 0, 0, 0, 0), (375, .ireturn, 1, 1, 1, 0, 0), (376, .aload_n 0, 1, 0, 0, 0, 0), (377, .getfield 64, 3, 0, 8, 6, 1), (380, .iconst 0, 1, 0, 0, 0, 0), (381, .iconst 0, 1, 0, 0, 0, 0), (382, .invokevirtual 262, 3, 0, 98, 2, 2), (385, .aload_n 0, 1, 0, 0, 0, 0), (386, .getfield 46, 3, 0, 8, 4, 1), (389, .invokevirtual 186, 3, 0, 76, 0, 412), (392, .ireturn, 1, 1, 1, 0, 0), (393, .iconst 0, 1, 0, 0, 0, 0), (394, .ireturn, 1, 1, 1, 0, 0)]
def am_m117 : am_M := (yX8_accepts, cX8_accepts, 5, (some .boolean), am_r117)
def am_r118 : List am_I := [(0, .aload_n 0, 1, 0, 0, 0, 0), (1, .iconst 2, 1, 0, 0, 0, 0), (2, .aload_n 0, 1, 0, 0, 0, 0), (3, .arraylength, 1, 0, 0, 0, 0), (4, .imul, 1, 0, 0, 0, 0), (5, .invokestatic 265, 3, 0, 1, 2, 23), (8, .areturn, 1, 1, 0, 0, 0)]
def am_m118 : am_M := (yX8_longer, cX8_longer, 1, (some (.array .int)), am_r118)
def am_r119 : List am_I := [(0, .iload_n 1, 1, 0, 0, 0, 0), (1, .iconst (-1), 1, 0, 0, 0, 0), (2, .if_icmp .ne 7, 3, 0, 9, 0, 0), (5, .iconst 0, 1, 0, 0, 0, 0), (6, .goto 6, 3, 0, 12, 0, 0), (9, .aload_n 0, 1, 0, 0, 0, 0), (10, .iload_n 1, 1, 0, 0, 0, 0), (11, .iaload, 1, 0, 0, 0, 0), (12, .ireturn, 1, 1, 0, 0, 0)]
def am_m119 : am_M := (yX8_partOf, cX8_partOf, 2, (some .int), am_r119)
def am_r120 : List am_I := [(0, .iload_n 0, 1, 0, 0, 0, 0), (1, .ifCond .lt 14, 3, 0, 15, 0, 0), (4, .iload_n 0, 1, 0, 0, 0, 0), (5, .ldc_w 271, 3, 0, 99999999, 0, 0), (8, .if_icmp .gt 7, 3, 0, 15, 0, 0), (11, .iconst 1, 1, 0, 0, 0, 0), (12, .goto 4, 3, 0, 16, 0, 0), (15, .iconst 0, 1, 0, 0, 0, 0), (16, .ireturn, 1, 1, 1, 0, 0)]
def am_m120 : am_M := (yX8_isName, cX8_isName, 1, (some .boolean), am_r120)
def am_r121 : List am_I := [(0, .aload_n 0, 1, 0, 0, 0, 0), (1, .invokespecial 1, 3, 0, 0, 0, 0), (4, .aload_n 0, 1, 0, 0, 0, 0), (5, .sipush 20000, 3, 0, 0, 0, 0), (8, .newarray .int, 2, 0, 0, 0, 0), (10, .putfield 7, 3, 0, 9, 2, 7), (13, .aload_n 0, 1, 0, 0, 0, 0), (14, .iconst (-1), 1, 0, 0, 0, 0), (15, .putfield 13, 3, 0, 9, 3, 0), (18, .aload_n 0, 1, 0, 0, 0, 0), (19, .sipush 9000, 3, 0, 0, 0, 0), (22, .newarray .int, 2, 0, 0, 0, 0), (24, .putfield 17, 3, 0, 9, 5, 7), (27, .aload_n 0, 1, 0, 0, 0, 0), (28, .sipush 9000, 3, 0, 0, 0, 0), (31, .newarray .int, 2, 0, 0, 0, 0), (33, .putfield 20, 3, 0, 9, 6, 7), (36, .aload_n 0, 1, 0, 0, 0, 0), (37, .sipush 9000, 3, 0, 0, 0, 0), (40, .newarray .int, 2, 0, 0, 0, 0), (42, .putfield 23, 3, 0, 9, 7, 7), (45, .aload_n 0, 1, 0, 0, 0, 0), (46, .sipush 9000, 3, 0, 0, 0, 0), (49, .newarray .int, 2, 0, 0, 0, 0), (51, .putfield 26, 3, 0, 9, 8, 7), (54, .aload_n 0, 1, 0, 0, 0, 0), (55, .sipush 9000, 3, 0, 0, 0, 0), (58, .newarray .int, 2, 0, 0, 0, 0), (60, .putfield 29, 3, 0, 9, 9, 7), (63, .aload_n 0, 1, 0, 0, 0, 0), (64, .sipush 9000, 3, 0, 0, 0, 0), (67, .newarray .int, 2, 0, 0, 0, 0), (69, .putfield 32, 3, 0, 9, 10, 7), (72, .aload_n 0, 1, 0, 0, 0, 0), (73, .sipush 4096, 3, 0, 0, 0, 0), (76, .newarray .int, 2, 0, 0, 0, 0), (78, .putfield 35, 3, 0, 9, 11, 7), (81, .aload_n 0, 1, 0, 0, 0, 0), (82, .sipush 9000, 3, 0, 0, 0, 0), (85, .newarray .int, 2, 0, 0, 0, 0), (87, .putfield 38, 3, 0, 9, 12, 7), (90, .aload_n 0, 1, 0, 0, 0, 0), (91, .iconst 3, 1, 0, 0, 0, 0), (92, .putfield 41, 3, 0, 9, 13, 0), (95, .aload_n 0, 1, 0, 0, 0, 0), (96, .bipush 42, 2, 0, 0, 0, 0), (98, .newarray .int, 2, 0, 0, 0, 0), (100, .putfield 44, 3, 0, 9, 14, 7), (103, .aload_n 0, 1, 0, 0, 0, 0), (104, .sipush 202, 3, 0, 0, 0, 0), (107, .newarray .int, 2, 0, 0, 0, 0), (109, .putfield 47, 3, 0, 9, 16, 7), (112, .aload_n 0, 1, 0, 0, 0, 0), (113, .ldc 50, 2, 0, 60000, 0, 0), (115, .newarray .int, 2, 0, 0, 0, 0), (117, .putfield 51, 3, 0, 9, 18, 7), (120, .aload_n 0, 1, 0, 0, 0, 0), (121, .ldc 50, 2, 0, 60000, 0, 0), (123, .newarray .int, 2, 0, 0, 0, 0), (125, .putfield 54, 3, 0, 9, 19, 7), (128, .aload_n 0, 1, 0, 0, 0, 0), (129, .ldc 50, 2, 0, 60000, 0, 0), (131, .newarray .int, 2, 0, 0, 0, 0), (133, .putfield 57, 3, 0, 9, 20, 7), (136, .aload_n 0, 1, 0, 0, 0, 0), (137, .ldc 50, 2, 0, 60000, 0, 0), (139, .newarray .int, 2, 0, 0, 0, 0), (141, .putfield 60, 3, 0, 9, 21, 7), (144, .aload_n 0, 1, 0, 0, 0, 0), (145, .ldc 50, 2, 0, 60000, 0, 0), (147, .newarray .int, 2, 0, 0, 0, 0), (149, .putfield 63, 3, 0, 9, 22, 7), (152, .aload_n 0, 1, 0, 0, 0, 0), (153, .ldc 50, 2, 0, 60000, 0, 0), (155, .newarray .int, 2, 0, 0, 0, 0), (157, .putfield 66, 3, 0, 9, 23, 7), (160, .aload_n 0, 1, 0, 0, 0, 0), (161, .ldc 50, 2, 0, 60000, 0, 0), (163, .newarray .int, 2, 0, 0, 0, 0), (165, .putfield 69, 3, 0, 9, 24, 7), (168, .aload_n 0, 1, 0, 0, 0, 0), (169, .ldc 50, 2, 0, 60000, 0, 0), (171, .newarray .int, 2, 0, 0, 0, 0), (173, .putfield 72, 3, 0, 9, 25, 7), (176, .aload_n 0, 1, 0, 0, 0, 0), (177, .sipush 4096, 3, 0, 0, 0, 0), (180, .newarray .int, 2, 0, 0, 0, 0), (182, .putfield 75, 3, 0, 9, 26, 7), (185, .aload_n 0, 1, 0, 0, 0, 0), (186, .ldc 50, 2, 0, 60000, 0, 0), (188, .newarray .int, 2, 0, 0, 0, 0), (190, .putfield 78, 3, 0, 9, 27, 7), (193, .aload_n 0, 1, 0, 0, 0, 0), (194, .sipush 8000, 3, 0, 0, 0, 0), (197, .newarray .int, 2, 0, 0, 0, 0), (199, .putfield 81, 3, 0, 9, 30, 7), (202, .aload_n 0, 1, 0, 0, 0, 0), (203, .sipush 16000, 3, 0, 0, 0, 0), (206, .newarray .int, 2, 0, 0, 0, 0), (208, .putfield 84, 3, 0, 9, 31, 7), (211, .aload_n 0, 1, 0, 0, 0, 0), (212, .sipush 1002, 3, 0, 0, 0, 0), (215, .newarray .int, 2, 0, 0, 0, 0), (217, .putfield 87, 3, 0, 9, 35, 7), (220, .aload_n 0, 1, 0, 0, 0, 0), (221, .sipush 1002, 3, 0, 0, 0, 0), (224, .newarray .int, 2, 0, 0, 0, 0), (226, .putfield 90, 3, 0, 9, 36, 7), (229, .aload_n 0, 1, 0, 0, 0, 0), (230, .sipush 1002, 3, 0, 0, 0, 0), (233, .newarray .int, 2, 0, 0, 0, 0), (235, .putfield 93, 3, 0, 9, 37, 7), (238, .aload_n 0, 1, 0, 0, 0, 0), (239, .sipush 1002, 3, 0, 0, 0, 0), (242, .newarray .int, 2, 0, 0, 0, 0), (244, .putfield 96, 3, 0, 9, 38, 7), (247, .aload_n 0, 1, 0, 0, 0, 0), (248, .sipush 1002, 3, 0, 0, 0, 0), (251, .newarray .int, 2, 0, 0, 0, 0), (253, .putfield 99, 3, 0, 9, 39, 7), (256, .aload_n 0, 1, 0, 0, 0, 0), (257, .sipush 1002, 3, 0, 0, 0, 0), (260, .newarray .int, 2, 0, 0, 0, 0), (262, .putfield 102, 3, 0, 9, 40, 7), (265, .aload_n 0, 1, 0, 0, 0, 0), (266, .sipush 1002, 3, 0, 0, 0, 0), (269, .newarray .int, 2, 0, 0, 0, 0), (271, .putfield 105, 3, 0, 9, 41, 7), (274, .aload_n 0, 1, 0, 0, 0, 0), (275, .sipush 1002, 3, 0, 0, 0, 0), (278, .newarray .int, 2, 0, 0, 0, 0), (280, .putfield 108, 3, 0, 9, 42, 7), (283, .aload_n 0, 1, 0, 0, 0, 0), (284, .ldc 111, 2, 0, 62000, 0, 0), (286, .newarray .int, 2, 0, 0, 0, 0), (288, .putfield 112, 3, 0, 9, 43, 7), (291, .aload_n 0, 1, 0, 0, 0, 0), (292, .sipush 256, 3, 0, 0, 0, 0), (295, .newarray .int, 2, 0, 0, 0, 0), (297, .putfield 115, 3, 0, 9, 47, 7), (300, .aload_n 0, 1, 0, 0, 0, 0), (301, .sipush 256, 3, 0, 0, 0, 0), (304, .newarray .int, 2, 0, 0, 0, 0), (306, .putfield 118, 3, 0, 9, 48, 7), (309, .aload_n 0, 1, 0, 0, 0, 0), (310, .sipush 256, 3, 0, 0, 0, 0), (313, .newarray .int, 2, 0, 0, 0, 0), (315, .putfield 121, 3, 0, 9, 50, 7), (318, .aload_n 0, 1, 0, 0, 0, 0), (319, .sipush 256, 3, 0, 0, 0, 0), (322, .newarray .int, 2, 0, 0, 0, 0), (324, .putfield 124, 3, 0, 9, 52, 7), (327, .iconst 0, 1, 0, 0, 0, 0), (328, .istore_n 1, 1, 0, 0, 0, 0), (329, .iload_n 1, 1, 5, 0, 0, 0), (330, .sipush 4096, 3, 0, 0, 0, 0), (333, .if_icmp .ge 23, 3, 0, 356, 0, 0), (336, .aload_n 0, 1, 0, 0, 0, 0), (337, .getfield 35, 3, 0, 9, 11, 1), (340, .iload_n 1, 1, 0, 0, 0, 0), (341, .iconst (-1), 1, 0, 0, 0, 0), (342, .iastore, 1, 0, 0, 0, 0), (343, .aload_n 0, 1, 0, 0, 0, 0), (344, .getfield 75, 3, 0, 9, 26, 1), (347, .iload_n 1, 1, 0, 0, 0, 0), (348, .iconst (-1), 1, 0, 0, 0, 0), (349, .iastore, 1, 0, 0, 0, 0), (350, .iinc 1 1, 3, 0, 0, 0, 0), (353, .goto (-24), 3, 0, 329, 0, 0), (356, .aload_n 0, 1, 0, 0, 0, 0), (357, .getfield 44, 3, 0, 9, 14, 1), (360, .iconst 2, 1, 0, 0, 0, 0), (361, .iconst 2, 1, 0, 0, 0, 0), (362, .iastore, 1, 0, 0, 0, 0), (363, .aload_n 0, 1, 0, 0, 0, 0), (364, .iconst (-1), 1, 0, 0, 0, 0), (365, .iconst (-1), 1, 0, 0, 0, 0), (366, .iconst (-1), 1, 0, 0, 0, 0), (367, .invokevirtual 127, 3, 0, 126, 3, 912), (370, .istore_n 1, 1, 0, 0, 0, 0), (371, .aload_n 0, 1, 0, 0, 0, 0), (372, .invokevirtual 131, 3, 0, 127, 0, 912), (375, .istore_n 2, 1, 0, 0, 0, 0), (376, .aload_n 0, 1, 0, 0, 0, 0), (377, .getfield 47, 3, 0, 9, 16, 1), (380, .iconst 0, 1, 0, 0, 0, 0), (381, .aload_n 0, 1, 0, 0, 0, 0), (382, .iload_n 1, 1, 0, 0, 0, 0), (383, .aload_n 0, 1, 0, 0, 0, 0), (384, .iload_n 1, 1, 0, 0, 0, 0), (385, .iload_n 2, 1, 0, 0, 0, 0), (386, .invokevirtual 135, 3, 0, 128, 2, 912), (389, .invokevirtual 135, 3, 0, 128, 2, 912), (392, .iastore, 1, 0, 0, 0, 0), (393, .aload_n 0, 1, 0, 0, 0, 0), (394, .getfield 47, 3, 0, 9, 16, 1), (397, .iconst 1, 1, 0, 0, 0, 0), (398, .aload_n 0, 1, 0, 0, 0, 0), (399, .aload_n 0, 1, 0, 0, 0, 0), (400, .iload_n 1, 1, 0, 0, 0, 0), (401, .iload_n 2, 1, 0, 0, 0, 0), (402, .invokevirtual 135, 3, 0, 128, 2, 912), (405, .iload_n 1, 1, 0, 0, 0, 0), (406, .invokevirtual 135, 3, 0, 128, 2, 912), (409, .iastore, 1, 0, 0, 0, 0), (410, .aload_n 0, 1, 0, 0, 0, 0), (411, .iconst 2, 1, 0, 0, 0, 0), (412, .putfield 139, 3, 0, 9, 15, 0), (415, .aload_n 0, 1, 0, 0, 0, 0), (416, .aload_n 0, 1, 0, 0, 0, 0), (417, .getfield 142, 3, 0, 9, 4, 0), (420, .putfield 145, 3, 0, 9, 44, 0), (423, .return_, 1, 1, 0, 0, 0)]
def am_m121 : am_M := (yX9_init, cX9_init, 3, none, am_r121)
def am_r122 : List am_I := [(0, .aload_n 0, 1, 0, 0, 0, 0), (1, .getfield 148, 3, 0, 9, 0, 0), (4, .ireturn, 1, 1, 0, 0, 0)]
def am_m122 : am_M := (yX9_thrown, cX9_thrown, 1, (some .int), am_r122)
def am_r123 : List am_I := [(0, .iload_n 0, 1, 0, 0, 0, 0), (1, .ifCond .lt 8, 3, 0, 9, 0, 0), (4, .iload_n 0, 1, 0, 0, 0, 0), (5, .iload_n 1, 1, 0, 0, 0, 0), (6, .if_icmp .lt 7, 3, 0, 13, 0, 0), (9, .iconst 1, 1, 0, 0, 0, 0), (10, .goto 4, 3, 0, 14, 0, 0), (13, .iconst 0, 1, 0, 0, 0, 0), (14, .ireturn, 1, 1, 1, 0, 0)]
def am_m123 : am_M := (yX9_outside, cX9_outside, 2, (some .boolean), am_r123)
def am_r124 : List am_I := [(0, .aload_n 0, 1, 0, 0, 0, 0), (1, .aload_n 0, 1, 0, 0, 0, 0), (2, .getfield 151, 3, 0, 9, 45, 0), (5, .ifCond .ne 7, 3, 0, 12, 0, 0), (8, .iload_n 1, 1, 0, 0, 0, 0), (9, .ifCond .ne 7, 3, 0, 16, 0, 0), (12, .iconst 1, 1, 0, 0, 0, 0), (13, .goto 4, 3, 0, 17, 0, 0), (16, .iconst 0, 1, 0, 0, 0, 0), (17, .putfield 151, 3, 0, 9, 45, 2), (20, .aload_n 0, 1, 0, 0, 0, 0), (21, .getfield 151, 3, 0, 9, 45, 0), (24, .ifCond .ne 7, 3, 0, 31, 0, 0), (27, .iconst 1, 1, 0, 0, 0, 0), (28, .goto 4, 3, 0, 32, 0, 0), (31, .iconst 0, 1, 0, 0, 0, 0), (32, .ireturn, 1, 1, 1, 0, 0)]
def am_m124 : am_M := (yX9_need, cX9_need, 2, (some .boolean), am_r124)
def am_r125 : List am_I := [(0, .bipush 31, 2, 0, 0, 0, 0), (2, .bipush 31, 2, 0, 0, 0, 0), (4, .bipush 31, 2, 0, 0, 0, 0), (6, .iload_n 0, 1, 0, 0, 0, 0), (7, .imul, 1, 0, 0, 0, 0), (8, .iload_n 1, 1, 0, 0, 0, 0), (9, .iadd, 1, 0, 0, 0, 0), (10, .imul, 1, 0, 0, 0, 0), (11, .iload_n 2, 1, 0, 0, 0, 0), (12, .iadd, 1, 0, 0, 0, 0), (13, .imul, 1, 0, 0, 0, 0), (14, .iload_n 3, 1, 0, 0, 0, 0), (15, .iadd, 1, 0, 0, 0, 0), (16, .sipush 4095, 3, 0, 0, 0, 0), (19, .iand, 1, 0, 0, 0, 0), (20, .ireturn, 1, 1, 0, 0, 0)]
def am_m125 : am_M := (yX9_chainOf, cX9_chainOf, 4, (some .int), am_r125)
def am_r126 : List am_I := [(0, .iload_n 1, 1, 0, 0, 0, 0), (1, .iload_n 2, 1, 0, 0, 0, 0), (2, .iload_n 3, 1, 0, 0, 0, 0), (3, .iconst 0, 1, 0, 0, 0, 0), (4, .invokestatic 155, 3, 0, 125, 4, 13), (7, .istore 4, 2, 0, 0, 0, 0), (9, .aload_n 0, 1, 0, 0, 0, 0), (10, .getfield 35, 3, 0, 9, 11, 1), (13, .iload 4, 2, 0, 0, 0, 0), (15, .iaload, 1, 0, 0, 0, 0), (16, .istore 5, 2, 0, 0, 0, 0), (18, .iload 5, 2, 65, 0, 0, 0), (20, .iconst (-1), 1, 0, 0, 0, 0), (21, .if_icmp .eq 51, 3, 0, 72, 0, 0), (24, .aload_n 0, 1, 0, 0, 0, 0), (25, .getfield 17, 3, 0, 9, 5, 1), (28, .iload 5, 2, 0, 0, 0, 0), (30, .iaload, 1, 0, 0, 0, 0), (31, .iload_n 1, 1, 0, 0, 0, 0), (32, .if_icmp .ne 28, 3, 0, 60, 0, 0), (35, .aload_n 0, 1, 0, 0, 0, 0), (36, .getfield 20, 3, 0, 9, 6, 1), (39, .iload 5, 2, 0, 0, 0, 0), (41, .iaload, 1, 0, 0, 0, 0), (42, .iload_n 2, 1, 0, 0, 0, 0), (43, .if_icmp .ne 17, 3, 0, 60, 0, 0), (46, .aload_n 0, 1, 0, 0, 0, 0), (47, .getfield 23, 3, 0, 9, 7, 1), (50, .iload 5, 2, 0, 0, 0, 0), (52, .iaload, 1, 0, 0, 0, 0), (53, .iload_n 3, 1, 0, 0, 0, 0), (54, .if_icmp .ne 6, 3, 0, 60, 0, 0), (57, .iload 5, 2, 0, 0, 0, 0), (59, .ireturn, 1, 1, 0, 0, 0), (60, .aload_n 0, 1, 0, 0, 0, 0), (61, .getfield 32, 3, 0, 9, 10, 1), (64, .iload 5, 2, 0, 0, 0, 0), (66, .iaload, 1, 0, 0, 0, 0), (67, .istore 5, 2, 0, 0, 0, 0), (69, .goto (-51), 3, 0, 18, 0, 0), (72, .iconst 1, 1, 0, 0, 0, 0), (73, .iload_n 2, 1, 0, 0, 0, 0), (74, .iconst (-1), 1, 0, 0, 0, 0), (75, .if_icmp .ne 7, 3, 0, 82, 0, 0), (78, .iconst 0, 1, 0, 0, 0, 0), (79, .goto 9, 3, 0, 88, 0, 0), (82, .aload_n 0, 1, 0, 0, 0, 0), (83, .getfield 26, 3, 0, 9, 8, 1), (86, .iload_n 2, 1, 0, 0, 0, 0), (87, .iaload, 1, 0, 0, 0, 0), (88, .iadd, 1, 0, 0, 0, 0), (89, .iload_n 3, 1, 0, 0, 0, 0), (90, .iconst (-1), 1, 0, 0, 0, 0), (91, .if_icmp .ne 7, 3, 0, 98, 0, 0), (94, .iconst 0, 1, 0, 0, 0, 0), (95, .goto 9, 3, 0, 104, 0, 0), (98, .aload_n 0, 1, 0, 0, 0, 0), (99, .getfield 26, 3, 0, 9, 8, 1), (102, .iload_n 3, 1, 0, 0, 0, 0), (103, .iaload, 1, 0, 0, 0, 0), (104, .iadd, 1, 33, 0, 0, 0), (105, .istore 5, 2, 0, 0, 0, 0), (107, .iload_n 2, 1, 0, 0, 0, 0), (108, .iconst (-1), 1, 0, 0, 0, 0), (109, .if_icmp .ne 7, 3, 0, 116, 0, 0), (112, .iconst 0, 1, 0, 0, 0, 0), (113, .goto 9, 3, 0, 122, 0, 0), (116, .aload_n 0, 1, 0, 0, 0, 0), (117, .getfield 29, 3, 0, 9, 9, 1), (120, .iload_n 2, 1, 0, 0, 0, 0), (121, .iaload, 1, 0, 0, 0, 0), (122, .istore 6, 2, 0, 0, 0, 0), (124, .iload_n 3, 1, 0, 0, 0, 0), (125, .iconst (-1), 1, 0, 0, 0, 0), (126, .if_icmp .ne 7, 3, 0, 133, 0, 0), (129, .iconst 0, 1, 0, 0, 0, 0), (130, .goto 9, 3, 0, 139, 0, 0), (133, .aload_n 0, 1, 0, 0, 0, 0), (134, .getfield 29, 3, 0, 9, 9, 1), (137, .iload_n 3, 1, 0, 0, 0, 0), (138, .iaload, 1, 0, 0, 0, 0), (139, .istore 7, 2, 0, 0, 0, 0), (141, .iconst 1, 1, 0, 0, 0, 0), (142, .iload 6, 2, 0, 0, 0, 0), (144, .iload 7, 2, 0, 0, 0, 0), (146, .if_icmp .le 8, 3, 0, 154, 0, 0), (149, .iload 6, 2, 0, 0, 0, 0), (151, .goto 5, 3, 0, 156, 0, 0), (154, .iload 7, 2, 0, 0, 0, 0), (156, .iadd, 1, 65, 0, 0, 0), (157, .istore 8, 2, 0, 0, 0, 0), (159, .aload_n 0, 1, 0, 0, 0, 0), (160, .iload 5, 2, 0, 0, 0, 0), (162, .sipush 200, 3, 0, 0, 0, 0), (165, .if_icmp .gt 24, 3, 0, 189, 0, 0), (168, .iload 8, 2, 0, 0, 0, 0), (170, .bipush 24, 2, 0, 0, 0, 0), (172, .if_icmp .gt 17, 3, 0, 189, 0, 0), (175, .aload_n 0, 1, 0, 0, 0, 0), (176, .getfield 142, 3, 0, 9, 4, 0), (179, .sipush 8000, 3, 0, 0, 0, 0), (182, .if_icmp .ge 7, 3, 0, 189, 0, 0), (185, .iconst 1, 1, 0, 0, 0, 0), (186, .goto 4, 3, 0, 190, 0, 0), (189, .iconst 0, 1, 0, 0, 0, 0), (190, .invokevirtual 159, 3, 321, 124, 1, 912), (193, .ifCond .ne 5, 3, 0, 198, 0, 0), (196, .iconst 0, 1, 0, 0, 0, 0), (197, .ireturn, 1, 1, 0, 0, 0), (198, .aload_n 0, 1, 0, 0, 0, 0), (199, .getfield 17, 3, 0, 9, 5, 1), (202, .aload_n 0, 1, 0, 0, 0, 0), (203, .getfield 142, 3, 0, 9, 4, 0), (206, .iload_n 1, 1, 0, 0, 0, 0), (207, .iastore, 1, 0, 0, 0, 0), (208, .aload_n 0, 1, 0, 0, 0, 0), (209, .getfield 20, 3, 0, 9, 6, 1), (212, .aload_n 0, 1, 0, 0, 0, 0), (213, .getfield 142, 3, 0, 9, 4, 0), (216, .iload_n 2, 1, 0, 0, 0, 0), (217, .iastore, 1, 0, 0, 0, 0), (218, .aload_n 0, 1, 0, 0, 0, 0), (219, .getfield 23, 3, 0, 9, 7, 1), (222, .aload_n 0, 1, 0, 0, 0, 0), (223, .getfield 142, 3, 0, 9, 4, 0), (226, .iload_n 3, 1, 0, 0, 0, 0), (227, .iastore, 1, 0, 0, 0, 0), (228, .aload_n 0, 1, 0, 0, 0, 0), (229, .getfield 26, 3, 0, 9, 8, 1), (232, .aload_n 0, 1, 0, 0, 0, 0), (233, .getfield 142, 3, 0, 9, 4, 0), (236, .iload 5, 2, 0, 0, 0, 0), (238, .iastore, 1, 0, 0, 0, 0), (239, .aload_n 0, 1, 0, 0, 0, 0), (240, .getfield 29, 3, 0, 9, 9, 1), (243, .aload_n 0, 1, 0, 0, 0, 0), (244, .getfield 142, 3, 0, 9, 4, 0), (247, .iload 8, 2, 0, 0, 0, 0), (249, .iastore, 1, 0, 0, 0, 0), (250, .aload_n 0, 1, 0, 0, 0, 0), (251, .getfield 32, 3, 0, 9, 10, 1), (254, .aload_n 0, 1, 0, 0, 0, 0), (255, .getfield 142, 3, 0, 9, 4, 0), (258, .aload_n 0, 1, 0, 0, 0, 0), (259, .getfield 35, 3, 0, 9, 11, 1), (262, .iload 4, 2, 0, 0, 0, 0), (264, .iaload, 1, 0, 0, 0, 0), (265, .iastore, 1, 0, 0, 0, 0), (266, .aload_n 0, 1, 0, 0, 0, 0), (267, .getfield 35, 3, 0, 9, 11, 1), (270, .iload 4, 2, 0, 0, 0, 0), (272, .aload_n 0, 1, 0, 0, 0, 0), (273, .getfield 142, 3, 0, 9, 4, 0), (276, .iastore, 1, 0, 0, 0, 0), (277, .aload_n 0, 1, 0, 0, 0, 0), (278, .dup, 1, 0, 0, 0, 0), (279, .getfield 142, 3, 0, 9, 4, 0), (282, .iconst 1, 1, 0, 0, 0, 0), (283, .iadd, 1, 0, 0, 0, 0), (284, .putfield 142, 3, 0, 9, 4, 0), (287, .aload_n 0, 1, 0, 0, 0, 0), (288, .getfield 142, 3, 0, 9, 4, 0), (291, .iconst 1, 1, 0, 0, 0, 0), (292, .isub, 1, 0, 0, 0, 0), (293, .ireturn, 1, 1, 0, 0, 0)]
def am_m126 : am_M := (yX9_typeOf, cX9_typeOf, 9, (some .int), am_r126)
def am_r127 : List am_I := [(0, .aload_n 0, 1, 0, 0, 0, 0), (1, .iconst 0, 1, 0, 0, 0, 0), (2, .iconst (-1), 1, 0, 0, 0, 0), (3, .iconst (-1), 1, 0, 0, 0, 0), (4, .invokevirtual 127, 3, 0, 126, 3, 912), (7, .ireturn, 1, 1, 0, 0, 0)]
def am_m127 : am_M := (yX9_truths, cX9_truths, 1, (some .int), am_r127)
def am_r128 : List am_I := [(0, .aload_n 0, 1, 0, 0, 0, 0), (1, .iconst 2, 1, 0, 0, 0, 0), (2, .iload_n 1, 1, 0, 0, 0, 0), (3, .iload_n 2, 1, 0, 0, 0, 0), (4, .invokevirtual 127, 3, 0, 126, 3, 912), (7, .ireturn, 1, 1, 0, 0, 0)]
def am_m128 : am_M := (yX9_functions, cX9_functions, 3, (some .int), am_r128)
def am_r129 : List am_I := [(0, .aload_n 0, 1, 0, 0, 0, 0), (1, .getfield 17, 3, 0, 9, 5, 1), (4, .iload_n 1, 1, 0, 0, 0, 0), (5, .iaload, 1, 0, 0, 0, 0), (6, .ifCond .ge 77, 3, 0, 83, 0, 0), (9, .iconst 0, 1, 0, 0, 0, 0), (10, .istore_n 3, 1, 0, 0, 0, 0), (11, .iload_n 3, 1, 17, 0, 0, 0), (12, .aload_n 0, 1, 0, 0, 0, 0), (13, .getfield 163, 3, 0, 9, 46, 0), (16, .if_icmp .ge 35, 3, 0, 51, 0, 0), (19, .aload_n 0, 1, 0, 0, 0, 0), (20, .getfield 115, 3, 0, 9, 47, 1), (23, .iload_n 3, 1, 0, 0, 0, 0), (24, .iaload, 1, 0, 0, 0, 0), (25, .iload_n 1, 1, 0, 0, 0, 0), (26, .if_icmp .ne 19, 3, 0, 45, 0, 0), (29, .aload_n 0, 1, 0, 0, 0, 0), (30, .getfield 118, 3, 0, 9, 48, 1), (33, .iload_n 3, 1, 0, 0, 0, 0), (34, .iaload, 1, 0, 0, 0, 0), (35, .iload_n 2, 1, 0, 0, 0, 0), (36, .if_icmp .ne 7, 3, 0, 43, 0, 0), (39, .iconst 1, 1, 0, 0, 0, 0), (40, .goto 4, 3, 0, 44, 0, 0), (43, .iconst 0, 1, 0, 0, 0, 0), (44, .ireturn, 1, 1, 1, 0, 0), (45, .iinc 3 1, 3, 0, 0, 0, 0), (48, .goto (-37), 3, 0, 11, 0, 0), (51, .aload_n 0, 1, 0, 0, 0, 0), (52, .getfield 115, 3, 0, 9, 47, 1), (55, .aload_n 0, 1, 0, 0, 0, 0), (56, .getfield 163, 3, 0, 9, 46, 0), (59, .iload_n 1, 1, 0, 0, 0, 0), (60, .iastore, 1, 0, 0, 0, 0), (61, .aload_n 0, 1, 0, 0, 0, 0), (62, .getfield 118, 3, 0, 9, 48, 1), (65, .aload_n 0, 1, 0, 0, 0, 0), (66, .getfield 163, 3, 0, 9, 46, 0), (69, .iload_n 2, 1, 0, 0, 0, 0), (70, .iastore, 1, 0, 0, 0, 0), (71, .aload_n 0, 1, 0, 0, 0, 0), (72, .dup, 1, 0, 0, 0, 0), (73, .getfield 163, 3, 0, 9, 46, 0), (76, .iconst 1, 1, 0, 0, 0, 0), (77, .iadd, 1, 0, 0, 0, 0), (78, .putfield 163, 3, 0, 9, 46, 0), (81, .iconst 1, 1, 0, 0, 0, 0), (82, .ireturn, 1, 1, 1, 0, 0), (83, .aload_n 0, 1, 0, 0, 0, 0), (84, .getfield 17, 3, 0, 9, 5, 1), (87, .iload_n 1, 1, 0, 0, 0, 0), (88, .iaload, 1, 0, 0, 0, 0), (89, .aload_n 0, 1, 0, 0, 0, 0), (90, .getfield 17, 3, 0, 9, 5, 1), (93, .iload_n 2, 1, 0, 0, 0, 0), (94, .iaload, 1, 0, 0, 0, 0), (95, .if_icmp .ne 65, 3, 0, 160, 0, 0), (98, .aload_n 0, 1, 0, 0, 0, 0), (99, .getfield 20, 3, 0, 9, 6, 1), (102, .iload_n 1, 1, 0, 0, 0, 0), (103, .iaload, 1, 0, 0, 0, 0), (104, .iconst (-1), 1, 0, 0, 0, 0), (105, .if_icmp .eq 22, 3, 0, 127, 0, 0), (108, .aload_n 0, 1, 0, 0, 0, 0), (109, .aload_n 0, 1, 0, 0, 0, 0), (110, .getfield 20, 3, 0, 9, 6, 1), (113, .iload_n 1, 1, 0, 0, 0, 0), (114, .iaload, 1, 0, 0, 0, 0), (115, .aload_n 0, 1, 0, 0, 0, 0), (116, .getfield 20, 3, 0, 9, 6, 1), (119, .iload_n 2, 1, 0, 0, 0, 0), (120, .iaload, 1, 0, 0, 0, 0), (121, .invokevirtual 166, 3, 0, 129, 2, 912), (124, .ifCond .eq 36, 3, 0, 160, 0, 0), (127, .aload_n 0, 1, 0, 0, 0, 0), (128, .getfield 23, 3, 0, 9, 7, 1), (131, .iload_n 1, 1, 0, 0, 0, 0), (132, .iaload, 1, 0, 0, 0, 0), (133, .iconst (-1), 1, 0, 0, 0, 0), (134, .if_icmp .eq 22, 3, 0, 156, 0, 0), (137, .aload_n 0, 1, 0, 0, 0, 0), (138, .aload_n 0, 1, 0, 0, 0, 0), (139, .getfield 23, 3, 0, 9, 7, 1), (142, .iload_n 1, 1, 0, 0, 0, 0), (143, .iaload, 1, 0, 0, 0, 0), (144, .aload_n 0, 1, 0, 0, 0, 0), (145, .getfield 23, 3, 0, 9, 7, 1), (148, .iload_n 2, 1, 0, 0, 0, 0), (149, .iaload, 1, 0, 0, 0, 0), (150, .invokevirtual 166, 3, 0, 129, 2, 912), (153, .ifCond .eq 7, 3, 0, 160, 0, 0), (156, .iconst 1, 1, 0, 0, 0, 0), (157, .goto 4, 3, 0, 161, 0, 0), (160, .iconst 0, 1, 0, 0, 0, 0), (161, .ireturn, 1, 1, 1, 0, 0)]
def am_m129 : am_M := (yX9_fits, cX9_fits, 4, (some .boolean), am_r129)
def am_r130 : List am_I := [(0, .aload_n 0, 1, 0, 0, 0, 0), (1, .getfield 17, 3, 0, 9, 5, 1), (4, .iload_n 1, 1, 0, 0, 0, 0), (5, .iaload, 1, 0, 0, 0, 0), (6, .ifCond .ge 38, 3, 0, 44, 0, 0), (9, .iconst 0, 1, 0, 0, 0, 0), (10, .istore_n 2, 1, 0, 0, 0, 0), (11, .iload_n 2, 1, 9, 0, 0, 0), (12, .aload_n 0, 1, 0, 0, 0, 0), (13, .getfield 163, 3, 0, 9, 46, 0), (16, .if_icmp .ge 26, 3, 0, 42, 0, 0), (19, .aload_n 0, 1, 0, 0, 0, 0), (20, .getfield 115, 3, 0, 9, 47, 1), (23, .iload_n 2, 1, 0, 0, 0, 0), (24, .iaload, 1, 0, 0, 0, 0), (25, .iload_n 1, 1, 0, 0, 0, 0), (26, .if_icmp .ne 10, 3, 0, 36, 0, 0), (29, .aload_n 0, 1, 0, 0, 0, 0), (30, .getfield 118, 3, 0, 9, 48, 1), (33, .iload_n 2, 1, 0, 0, 0, 0), (34, .iaload, 1, 0, 0, 0, 0), (35, .ireturn, 1, 1, 0, 0, 0), (36, .iinc 2 1, 3, 0, 0, 0, 0), (39, .goto (-28), 3, 0, 11, 0, 0), (42, .iload_n 1, 1, 0, 0, 0, 0), (43, .ireturn, 1, 1, 0, 0, 0), (44, .aload_n 0, 1, 0, 0, 0, 0), (45, .getfield 20, 3, 0, 9, 6, 1), (48, .iload_n 1, 1, 0, 0, 0, 0), (49, .iaload, 1, 0, 0, 0, 0), (50, .iconst (-1), 1, 0, 0, 0, 0), (51, .if_icmp .ne 5, 3, 0, 56, 0, 0), (54, .iload_n 1, 1, 0, 0, 0, 0), (55, .ireturn, 1, 1, 0, 0, 0), (56, .aload_n 0, 1, 0, 0, 0, 0), (57, .aload_n 0, 1, 0, 0, 0, 0), (58, .getfield 20, 3, 0, 9, 6, 1), (61, .iload_n 1, 1, 0, 0, 0, 0), (62, .iaload, 1, 0, 0, 0, 0), (63, .invokevirtual 170, 3, 0, 130, 1, 912), (66, .istore_n 2, 1, 0, 0, 0, 0), (67, .aload_n 0, 1, 0, 0, 0, 0), (68, .getfield 23, 3, 0, 9, 7, 1), (71, .iload_n 1, 1, 0, 0, 0, 0), (72, .iaload, 1, 0, 0, 0, 0), (73, .iconst (-1), 1, 0, 0, 0, 0), (74, .if_icmp .ne 7, 3, 0, 81, 0, 0), (77, .iconst (-1), 1, 0, 0, 0, 0), (78, .goto 13, 3, 0, 91, 0, 0), (81, .aload_n 0, 1, 0, 0, 0, 0), (82, .aload_n 0, 1, 0, 0, 0, 0), (83, .getfield 23, 3, 0, 9, 7, 1), (86, .iload_n 1, 1, 0, 0, 0, 0), (87, .iaload, 1, 0, 0, 0, 0), (88, .invokevirtual 170, 3, 0, 130, 1, 912), (91, .istore_n 3, 1, 0, 0, 0, 0), (92, .aload_n 0, 1, 0, 0, 0, 0), (93, .getfield 151, 3, 0, 9, 45, 0), (96, .ifCond .eq 7, 3, 0, 103, 0, 0), (99, .iload_n 1, 1, 0, 0, 0, 0), (100, .goto 15, 3, 0, 115, 0, 0), (103, .aload_n 0, 1, 0, 0, 0, 0), (104, .aload_n 0, 1, 0, 0, 0, 0), (105, .getfield 17, 3, 0, 9, 5, 1), (108, .iload_n 1, 1, 0, 0, 0, 0), (109, .iaload, 1, 0, 0, 0, 0), (110, .iload_n 2, 1, 0, 0, 0, 0), (111, .iload_n 3, 1, 0, 0, 0, 0), (112, .invokevirtual 127, 3, 0, 126, 3, 912), (115, .ireturn, 1, 1, 0, 0, 0)]
def am_m130 : am_M := (yX9_exchanged, cX9_exchanged, 4, (some .int), am_r130)
def am_r131 : List am_I := [(0, .iload_n 1, 1, 0, 0, 0, 0), (1, .iload_n 2, 1, 0, 0, 0, 0), (2, .iload_n 3, 1, 0, 0, 0, 0), (3, .iload 4, 2, 0, 0, 0, 0), (5, .invokestatic 155, 3, 0, 125, 4, 13), (8, .istore 5, 2, 0, 0, 0, 0), (10, .aload_n 0, 1, 0, 0, 0, 0), (11, .getfield 75, 3, 0, 9, 26, 1), (14, .iload 5, 2, 0, 0, 0, 0), (16, .iaload, 1, 0, 0, 0, 0), (17, .istore 6, 2, 0, 0, 0, 0), (19, .iload 6, 2, 129, 0, 0, 0), (21, .iconst (-1), 1, 0, 0, 0, 0), (22, .if_icmp .eq 63, 3, 0, 85, 0, 0), (25, .aload_n 0, 1, 0, 0, 0, 0), (26, .getfield 51, 3, 0, 9, 18, 1), (29, .iload 6, 2, 0, 0, 0, 0), (31, .iaload, 1, 0, 0, 0, 0), (32, .iload_n 1, 1, 0, 0, 0, 0), (33, .if_icmp .ne 40, 3, 0, 73, 0, 0), (36, .aload_n 0, 1, 0, 0, 0, 0), (37, .getfield 54, 3, 0, 9, 19, 1), (40, .iload 6, 2, 0, 0, 0, 0), (42, .iaload, 1, 0, 0, 0, 0), (43, .iload_n 2, 1, 0, 0, 0, 0), (44, .if_icmp .ne 29, 3, 0, 73, 0, 0), (47, .aload_n 0, 1, 0, 0, 0, 0), (48, .getfield 57, 3, 0, 9, 20, 1), (51, .iload 6, 2, 0, 0, 0, 0), (53, .iaload, 1, 0, 0, 0, 0), (54, .iload_n 3, 1, 0, 0, 0, 0), (55, .if_icmp .ne 18, 3, 0, 73, 0, 0), (58, .aload_n 0, 1, 0, 0, 0, 0), (59, .getfield 60, 3, 0, 9, 21, 1), (62, .iload 6, 2, 0, 0, 0, 0), (64, .iaload, 1, 0, 0, 0, 0), (65, .iload 4, 2, 0, 0, 0, 0), (67, .if_icmp .ne 6, 3, 0, 73, 0, 0), (70, .iload 6, 2, 0, 0, 0, 0), (72, .ireturn, 1, 1, 0, 0, 0), (73, .aload_n 0, 1, 0, 0, 0, 0), (74, .getfield 72, 3, 0, 9, 25, 1), (77, .iload 6, 2, 0, 0, 0, 0), (79, .iaload, 1, 0, 0, 0, 0), (80, .istore 6, 2, 0, 0, 0, 0), (82, .goto (-63), 3, 0, 19, 0, 0), (85, .iconst 1, 1, 0, 0, 0, 0), (86, .istore 6, 2, 0, 0, 0, 0), (88, .iconst 1, 1, 0, 0, 0, 0), (89, .istore 7, 2, 0, 0, 0, 0), (91, .iload_n 1, 1, 0, 0, 0, 0), (92, .bipush 6, 2, 0, 0, 0, 0), (94, .if_icmp .ne 9, 3, 0, 103, 0, 0), (97, .iload_n 2, 1, 0, 0, 0, 0), (98, .iconst 1, 1, 0, 0, 0, 0), (99, .iadd, 1, 0, 0, 0, 0), (100, .goto 4, 3, 0, 104, 0, 0), (103, .iconst 0, 1, 0, 0, 0, 0), (104, .istore 8, 2, 257, 0, 0, 0), (106, .iload_n 1, 1, 0, 0, 0, 0), (107, .iconst 4, 1, 0, 0, 0, 0), (108, .if_icmp .ne 91, 3, 0, 199, 0, 0), (111, .iload 6, 2, 0, 0, 0, 0), (113, .aload_n 0, 1, 0, 0, 0, 0), (114, .getfield 63, 3, 0, 9, 22, 1), (117, .iload_n 2, 1, 0, 0, 0, 0), (118, .iaload, 1, 0, 0, 0, 0), (119, .aload_n 0, 1, 0, 0, 0, 0), (120, .getfield 63, 3, 0, 9, 22, 1), (123, .iload_n 3, 1, 0, 0, 0, 0), (124, .iaload, 1, 0, 0, 0, 0), (125, .iadd, 1, 0, 0, 0, 0), (126, .iadd, 1, 0, 0, 0, 0), (127, .istore 6, 2, 0, 0, 0, 0), (129, .iload 7, 2, 0, 0, 0, 0), (131, .aload_n 0, 1, 0, 0, 0, 0), (132, .getfield 66, 3, 0, 9, 23, 1), (135, .iload_n 2, 1, 0, 0, 0, 0), (136, .iaload, 1, 0, 0, 0, 0), (137, .aload_n 0, 1, 0, 0, 0, 0), (138, .getfield 66, 3, 0, 9, 23, 1), (141, .iload_n 3, 1, 0, 0, 0, 0), (142, .iaload, 1, 0, 0, 0, 0), (143, .if_icmp .le 12, 3, 0, 155, 0, 0), (146, .aload_n 0, 1, 0, 0, 0, 0), (147, .getfield 66, 3, 0, 9, 23, 1), (150, .iload_n 2, 1, 0, 0, 0, 0), (151, .iaload, 1, 0, 0, 0, 0), (152, .goto 9, 3, 0, 161, 0, 0), (155, .aload_n 0, 1, 0, 0, 0, 0), (156, .getfield 66, 3, 0, 9, 23, 1), (159, .iload_n 3, 1, 0, 0, 0, 0), (160, .iaload, 1, 0, 0, 0, 0), (161, .iadd, 1, 129, 0, 0, 0), (162, .istore 7, 2, 0, 0, 0, 0), (164, .aload_n 0, 1, 0, 0, 0, 0), (165, .getfield 69, 3, 0, 9, 24, 1), (168, .iload_n 2, 1, 0, 0, 0, 0), (169, .iaload, 1, 0, 0, 0, 0), (170, .aload_n 0, 1, 0, 0, 0, 0), (171, .getfield 69, 3, 0, 9, 24, 1), (174, .iload_n 3, 1, 0, 0, 0, 0), (175, .iaload, 1, 0, 0, 0, 0), (176, .if_icmp .le 12, 3, 0, 188, 0, 0), (179, .aload_n 0, 1, 0, 0, 0, 0), (180, .getfield 69, 3, 0, 9, 24, 1), (183, .iload_n 2, 1, 0, 0, 0, 0), (184, .iaload, 1, 0, 0, 0, 0), (185, .goto 9, 3, 0, 194, 0, 0), (188, .aload_n 0, 1, 0, 0, 0, 0), (189, .getfield 69, 3, 0, 9, 24, 1), (192, .iload_n 3, 1, 0, 0, 0, 0), (193, .iaload, 1, 0, 0, 0, 0), (194, .istore 8, 2, 0, 0, 0, 0), (196, .goto 53, 3, 0, 249, 0, 0), (199, .iload_n 1, 1, 0, 0, 0, 0), (200, .iconst 5, 1, 0, 0, 0, 0), (201, .if_icmp .ne 48, 3, 0, 249, 0, 0), (204, .iload 6, 2, 0, 0, 0, 0), (206, .aload_n 0, 1, 0, 0, 0, 0), (207, .getfield 63, 3, 0, 9, 22, 1), (210, .iload_n 3, 1, 0, 0, 0, 0), (211, .iaload, 1, 0, 0, 0, 0), (212, .iadd, 1, 0, 0, 0, 0), (213, .istore 6, 2, 0, 0, 0, 0), (215, .iload 7, 2, 0, 0, 0, 0), (217, .aload_n 0, 1, 0, 0, 0, 0), (218, .getfield 66, 3, 0, 9, 23, 1), (221, .iload_n 3, 1, 0, 0, 0, 0), (222, .iaload, 1, 0, 0, 0, 0), (223, .iadd, 1, 0, 0, 0, 0), (224, .istore 7, 2, 0, 0, 0, 0), (226, .aload_n 0, 1, 0, 0, 0, 0), (227, .getfield 69, 3, 0, 9, 24, 1), (230, .iload_n 3, 1, 0, 0, 0, 0), (231, .iaload, 1, 0, 0, 0, 0), (232, .ifCond .le 14, 3, 0, 246, 0, 0), (235, .aload_n 0, 1, 0, 0, 0, 0), (236, .getfield 69, 3, 0, 9, 24, 1), (239, .iload_n 3, 1, 0, 0, 0, 0), (240, .iaload, 1, 0, 0, 0, 0), (241, .iconst 1, 1, 0, 0, 0, 0), (242, .isub, 1, 0, 0, 0, 0), (243, .goto 4, 3, 0, 247, 0, 0), (246, .iconst 0, 1, 0, 0, 0, 0), (247, .istore 8, 2, 0, 0, 0, 0), (249, .aload_n 0, 1, 513, 0, 0, 0), (250, .iload 6, 2, 0, 0, 0, 0), (252, .sipush 4000, 3, 0, 0, 0, 0), (255, .if_icmp .gt 23, 3, 0, 278, 0, 0), (258, .iload 7, 2, 0, 0, 0, 0), (260, .bipush 120, 2, 0, 0, 0, 0), (262, .if_icmp .gt 16, 3, 0, 278, 0, 0), (265, .aload_n 0, 1, 0, 0, 0, 0), (266, .getfield 174, 3, 0, 9, 17, 0), (269, .ldc 50, 2, 0, 60000, 0, 0), (271, .if_icmp .ge 7, 3, 0, 278, 0, 0), (274, .iconst 1, 1, 0, 0, 0, 0), (275, .goto 4, 3, 0, 279, 0, 0), (278, .iconst 0, 1, 0, 0, 0, 0), (279, .invokevirtual 159, 3, 513, 124, 1, 912), (282, .ifCond .ne 5, 3, 0, 287, 0, 0), (285, .iconst 0, 1, 0, 0, 0, 0), (286, .ireturn, 1, 1, 0, 0, 0), (287, .aload_n 0, 1, 0, 0, 0, 0), (288, .getfield 51, 3, 0, 9, 18, 1), (291, .aload_n 0, 1, 0, 0, 0, 0), (292, .getfield 174, 3, 0, 9, 17, 0), (295, .iload_n 1, 1, 0, 0, 0, 0), (296, .iastore, 1, 0, 0, 0, 0), (297, .aload_n 0, 1, 0, 0, 0, 0), (298, .getfield 54, 3, 0, 9, 19, 1), (301, .aload_n 0, 1, 0, 0, 0, 0), (302, .getfield 174, 3, 0, 9, 17, 0), (305, .iload_n 2, 1, 0, 0, 0, 0), (306, .iastore, 1, 0, 0, 0, 0), (307, .aload_n 0, 1, 0, 0, 0, 0), (308, .getfield 57, 3, 0, 9, 20, 1), (311, .aload_n 0, 1, 0, 0, 0, 0), (312, .getfield 174, 3, 0, 9, 17, 0), (315, .iload_n 3, 1, 0, 0, 0, 0), (316, .iastore, 1, 0, 0, 0, 0), (317, .aload_n 0, 1, 0, 0, 0, 0), (318, .getfield 60, 3, 0, 9, 21, 1), (321, .aload_n 0, 1, 0, 0, 0, 0), (322, .getfield 174, 3, 0, 9, 17, 0), (325, .iload 4, 2, 0, 0, 0, 0), (327, .iastore, 1, 0, 0, 0, 0), (328, .aload_n 0, 1, 0, 0, 0, 0), (329, .getfield 63, 3, 0, 9, 22, 1), (332, .aload_n 0, 1, 0, 0, 0, 0), (333, .getfield 174, 3, 0, 9, 17, 0), (336, .iload 6, 2, 0, 0, 0, 0), (338, .iastore, 1, 0, 0, 0, 0), (339, .aload_n 0, 1, 0, 0, 0, 0), (340, .getfield 66, 3, 0, 9, 23, 1), (343, .aload_n 0, 1, 0, 0, 0, 0), (344, .getfield 174, 3, 0, 9, 17, 0), (347, .iload 7, 2, 0, 0, 0, 0), (349, .iastore, 1, 0, 0, 0, 0), (350, .aload_n 0, 1, 0, 0, 0, 0), (351, .getfield 69, 3, 0, 9, 24, 1), (354, .aload_n 0, 1, 0, 0, 0, 0), (355, .getfield 174, 3, 0, 9, 17, 0), (358, .iload 8, 2, 0, 0, 0, 0), (360, .iastore, 1, 0, 0, 0, 0), (361, .aload_n 0, 1, 0, 0, 0, 0), (362, .getfield 72, 3, 0, 9, 25, 1), (365, .aload_n 0, 1, 0, 0, 0, 0), (366, .getfield 174, 3, 0, 9, 17, 0), (369, .aload_n 0, 1, 0, 0, 0, 0), (370, .getfield 75, 3, 0, 9, 26, 1), (373, .iload 5, 2, 0, 0, 0, 0), (375, .iaload, 1, 0, 0, 0, 0), (376, .iastore, 1, 0, 0, 0, 0), (377, .aload_n 0, 1, 0, 0, 0, 0), (378, .getfield 75, 3, 0, 9, 26, 1), (381, .iload 5, 2, 0, 0, 0, 0), (383, .aload_n 0, 1, 0, 0, 0, 0), (384, .getfield 174, 3, 0, 9, 17, 0), (387, .iastore, 1, 0, 0, 0, 0), (388, .aload_n 0, 1, 0, 0, 0, 0), (389, .dup, 1, 0, 0, 0, 0), (390, .getfield 174, 3, 0, 9, 17, 0), (393, .iconst 1, 1, 0, 0, 0, 0), (394, .iadd, 1, 0, 0, 0, 0), (395, .putfield 174, 3, 0, 9, 17, 0), (398, .aload_n 0, 1, 0, 0, 0, 0), (399, .getfield 174, 3, 0, 9, 17, 0), (402, .iconst 1, 1, 0, 0, 0, 0), (403, .isub, 1, 0, 0, 0, 0), (404, .ireturn, 1, 1, 0, 0, 0)]
def am_m131 : am_M := (yX9_node, cX9_node, 9, (some .int), am_r131)
def am_r132 : List am_I := [(0, .aload_n 0, 1, 0, 0, 0, 0), (1, .getfield 151, 3, 0, 9, 45, 0), (4, .ifCond .eq 7, 3, 0, 11, 0, 0), (7, .iconst 0, 1, 0, 0, 0, 0), (8, .goto 11, 3, 0, 19, 0, 0), (11, .aload_n 0, 1, 0, 0, 0, 0), (12, .iconst 2, 1, 0, 0, 0, 0), (13, .iload_n 1, 1, 0, 0, 0, 0), (14, .iconst 0, 1, 0, 0, 0, 0), (15, .iload_n 2, 1, 0, 0, 0, 0), (16, .invokevirtual 177, 3, 0, 131, 4, 912), (19, .ireturn, 1, 1, 0, 0, 0)]
def am_m132 : am_M := (yX9_free, cX9_free, 3, (some .int), am_r132)
def am_r133 : List am_I := [(0, .aload_n 0, 1, 0, 0, 0, 0), (1, .getfield 151, 3, 0, 9, 45, 0), (4, .ifCond .eq 7, 3, 0, 11, 0, 0), (7, .iconst 0, 1, 0, 0, 0, 0), (8, .goto 11, 3, 0, 19, 0, 0), (11, .aload_n 0, 1, 0, 0, 0, 0), (12, .iconst 3, 1, 0, 0, 0, 0), (13, .iload_n 1, 1, 0, 0, 0, 0), (14, .iconst 0, 1, 0, 0, 0, 0), (15, .iload_n 2, 1, 0, 0, 0, 0), (16, .invokevirtual 177, 3, 0, 131, 4, 912), (19, .ireturn, 1, 1, 0, 0, 0)]
def am_m133 : am_M := (yX9_constant, cX9_constant, 3, (some .int), am_r133)
def am_r134 : List am_I := [(0, .aload_n 0, 1, 0, 0, 0, 0), (1, .getfield 60, 3, 0, 9, 21, 1), (4, .iload_n 1, 1, 0, 0, 0, 0), (5, .iaload, 1, 0, 0, 0, 0), (6, .istore_n 3, 1, 0, 0, 0, 0), (7, .aload_n 0, 1, 0, 0, 0, 0), (8, .getfield 17, 3, 0, 9, 5, 1), (11, .iload_n 3, 1, 0, 0, 0, 0), (12, .iaload, 1, 0, 0, 0, 0), (13, .iconst 2, 1, 0, 0, 0, 0), (14, .if_icmp .ne 22, 3, 0, 36, 0, 0), (17, .aload_n 0, 1, 0, 0, 0, 0), (18, .getfield 20, 3, 0, 9, 6, 1), (21, .iload_n 3, 1, 0, 0, 0, 0), (22, .iaload, 1, 0, 0, 0, 0), (23, .aload_n 0, 1, 0, 0, 0, 0), (24, .getfield 60, 3, 0, 9, 21, 1), (27, .iload_n 2, 1, 0, 0, 0, 0), (28, .iaload, 1, 0, 0, 0, 0), (29, .if_icmp .ne 7, 3, 0, 36, 0, 0), (32, .iconst 1, 1, 0, 0, 0, 0), (33, .goto 4, 3, 0, 37, 0, 0), (36, .iconst 0, 1, 0, 0, 0, 0), (37, .ireturn, 1, 1, 1, 0, 0)]
def am_m134 : am_M := (yX9_canApply, cX9_canApply, 4, (some .boolean), am_r134)
def am_r135 : List am_I := [(0, .aload_n 0, 1, 0, 0, 0, 0), (1, .getfield 151, 3, 0, 9, 45, 0), (4, .ifCond .eq 7, 3, 0, 11, 0, 0), (7, .iconst 0, 1, 0, 0, 0, 0), (8, .goto 21, 3, 0, 29, 0, 0), (11, .aload_n 0, 1, 0, 0, 0, 0), (12, .iconst 4, 1, 0, 0, 0, 0), (13, .iload_n 1, 1, 0, 0, 0, 0), (14, .iload_n 2, 1, 0, 0, 0, 0), (15, .aload_n 0, 1, 0, 0, 0, 0), (16, .getfield 23, 3, 0, 9, 7, 1), (19, .aload_n 0, 1, 0, 0, 0, 0), (20, .getfield 60, 3, 0, 9, 21, 1), (23, .iload_n 1, 1, 0, 0, 0, 0), (24, .iaload, 1, 0, 0, 0, 0), (25, .iaload, 1, 0, 0, 0, 0), (26, .invokevirtual 177, 3, 0, 131, 4, 912), (29, .ireturn, 1, 1, 0, 0, 0)]
def am_m135 : am_M := (yX9_apply, cX9_apply, 3, (some .int), am_r135)
def am_r136 : List am_I := [(0, .aload_n 0, 1, 0, 0, 0, 0), (1, .getfield 151, 3, 0, 9, 45, 0), (4, .ifCond .eq 5, 3, 0, 9, 0, 0), (7, .iconst 0, 1, 0, 0, 0, 0), (8, .ireturn, 1, 1, 0, 0, 0), (9, .aload_n 0, 1, 0, 0, 0, 0), (10, .iload_n 1, 1, 0, 0, 0, 0), (11, .aload_n 0, 1, 0, 0, 0, 0), (12, .getfield 60, 3, 0, 9, 21, 1), (15, .iload_n 2, 1, 0, 0, 0, 0), (16, .iaload, 1, 0, 0, 0, 0), (17, .invokevirtual 135, 3, 0, 128, 2, 912), (20, .istore_n 3, 1, 0, 0, 0, 0), (21, .aload_n 0, 1, 0, 0, 0, 0), (22, .getfield 151, 3, 0, 9, 45, 0), (25, .ifCond .eq 7, 3, 0, 32, 0, 0), (28, .iconst 0, 1, 0, 0, 0, 0), (29, .goto 11, 3, 0, 40, 0, 0), (32, .aload_n 0, 1, 0, 0, 0, 0), (33, .iconst 5, 1, 0, 0, 0, 0), (34, .iload_n 1, 1, 0, 0, 0, 0), (35, .iload_n 2, 1, 0, 0, 0, 0), (36, .iload_n 3, 1, 0, 0, 0, 0), (37, .invokevirtual 177, 3, 0, 131, 4, 912), (40, .ireturn, 1, 1, 0, 0, 0)]
def am_m136 : am_M := (yX9_abstracted, cX9_abstracted, 4, (some .int), am_r136)
def am_r137 : List am_I := [(0, .aload_n 0, 1, 0, 0, 0, 0), (1, .getfield 151, 3, 0, 9, 45, 0), (4, .ifCond .eq 5, 3, 0, 9, 0, 0), (7, .iconst 0, 1, 0, 0, 0, 0), (8, .ireturn, 1, 1, 0, 0, 0), (9, .iload_n 2, 1, 0, 0, 0, 0), (10, .iload_n 1, 1, 0, 0, 0, 0), (11, .if_icmp .ne 18, 3, 0, 29, 0, 0), (14, .aload_n 0, 1, 0, 0, 0, 0), (15, .bipush 6, 2, 0, 0, 0, 0), (17, .iload_n 3, 1, 0, 0, 0, 0), (18, .iconst 0, 1, 0, 0, 0, 0), (19, .aload_n 0, 1, 0, 0, 0, 0), (20, .getfield 60, 3, 0, 9, 21, 1), (23, .iload_n 1, 1, 0, 0, 0, 0), (24, .iaload, 1, 0, 0, 0, 0), (25, .invokevirtual 177, 3, 0, 131, 4, 912), (28, .ireturn, 1, 1, 0, 0, 0), (29, .aload_n 0, 1, 0, 0, 0, 0), (30, .getfield 51, 3, 0, 9, 18, 1), (33, .iload_n 2, 1, 0, 0, 0, 0), (34, .iaload, 1, 0, 0, 0, 0), (35, .iconst 4, 1, 0, 0, 0, 0), (36, .if_icmp .ne 36, 3, 0, 72, 0, 0), (39, .aload_n 0, 1, 0, 0, 0, 0), (40, .iload_n 1, 1, 0, 0, 0, 0), (41, .aload_n 0, 1, 0, 0, 0, 0), (42, .getfield 54, 3, 0, 9, 19, 1), (45, .iload_n 2, 1, 0, 0, 0, 0), (46, .iaload, 1, 0, 0, 0, 0), (47, .iload_n 3, 1, 0, 0, 0, 0), (48, .invokevirtual 180, 3, 0, 137, 3, 912), (51, .istore 4, 2, 0, 0, 0, 0), (53, .aload_n 0, 1, 0, 0, 0, 0), (54, .iload 4, 2, 0, 0, 0, 0), (56, .aload_n 0, 1, 0, 0, 0, 0), (57, .iload_n 1, 1, 0, 0, 0, 0), (58, .aload_n 0, 1, 0, 0, 0, 0), (59, .getfield 57, 3, 0, 9, 20, 1), (62, .iload_n 2, 1, 0, 0, 0, 0), (63, .iaload, 1, 0, 0, 0, 0), (64, .iload_n 3, 1, 0, 0, 0, 0), (65, .invokevirtual 180, 3, 0, 137, 3, 912), (68, .invokevirtual 183, 3, 0, 135, 2, 912), (71, .ireturn, 1, 1, 0, 0, 0), (72, .aload_n 0, 1, 0, 0, 0, 0), (73, .getfield 51, 3, 0, 9, 18, 1), (76, .iload_n 2, 1, 0, 0, 0, 0), (77, .iaload, 1, 0, 0, 0, 0), (78, .iconst 5, 1, 0, 0, 0, 0), (79, .if_icmp .ne 30, 3, 0, 109, 0, 0), (82, .aload_n 0, 1, 0, 0, 0, 0), (83, .aload_n 0, 1, 0, 0, 0, 0), (84, .getfield 54, 3, 0, 9, 19, 1), (87, .iload_n 2, 1, 0, 0, 0, 0), (88, .iaload, 1, 0, 0, 0, 0), (89, .aload_n 0, 1, 0, 0, 0, 0), (90, .iload_n 1, 1, 0, 0, 0, 0), (91, .aload_n 0, 1, 0, 0, 0, 0), (92, .getfield 57, 3, 0, 9, 20, 1), (95, .iload_n 2, 1, 0, 0, 0, 0), (96, .iaload, 1, 0, 0, 0, 0), (97, .iload_n 3, 1, 0, 0, 0, 0), (98, .iconst 1, 1, 0, 0, 0, 0), (99, .iadd, 1, 0, 0, 0, 0), (100, .invokevirtual 180, 3, 0, 137, 3, 912), (103, .invokevirtual 186, 3, 0, 136, 2, 912), (106, .goto 4, 3, 0, 110, 0, 0), (109, .iload_n 2, 1, 0, 0, 0, 0), (110, .ireturn, 1, 1, 0, 0, 0)]
def am_m137 : am_M := (yX9_bind, cX9_bind, 5, (some .int), am_r137)
def am_r138 : List am_I := [(0, .aload_n 0, 1, 0, 0, 0, 0), (1, .aload_n 0, 1, 0, 0, 0, 0), (2, .getfield 60, 3, 0, 9, 21, 1), (5, .iload_n 1, 1, 0, 0, 0, 0), (6, .iaload, 1, 0, 0, 0, 0), (7, .aload_n 0, 1, 0, 0, 0, 0), (8, .iload_n 1, 1, 0, 0, 0, 0), (9, .iload_n 2, 1, 0, 0, 0, 0), (10, .iconst 0, 1, 0, 0, 0, 0), (11, .invokevirtual 180, 3, 0, 137, 3, 912), (14, .invokevirtual 186, 3, 0, 136, 2, 912), (17, .ireturn, 1, 1, 0, 0, 0)]
def am_m138 : am_M := (yX9_abstraction, cX9_abstraction, 3, (some .int), am_r138)
def am_r139 : List am_I := [(0, .aload_n 0, 1, 0, 0, 0, 0), (1, .getfield 151, 3, 0, 9, 45, 0), (4, .ifCond .eq 5, 3, 0, 9, 0, 0), (7, .iconst 0, 1, 0, 0, 0, 0), (8, .ireturn, 1, 1, 0, 0, 0), (9, .aload_n 0, 1, 0, 0, 0, 0), (10, .getfield 51, 3, 0, 9, 18, 1), (13, .iload_n 1, 1, 0, 0, 0, 0), (14, .iaload, 1, 0, 0, 0, 0), (15, .bipush 6, 2, 0, 0, 0, 0), (17, .if_icmp .ne 19, 3, 0, 36, 0, 0), (20, .aload_n 0, 1, 0, 0, 0, 0), (21, .getfield 54, 3, 0, 9, 19, 1), (24, .iload_n 1, 1, 0, 0, 0, 0), (25, .iaload, 1, 0, 0, 0, 0), (26, .iload_n 3, 1, 0, 0, 0, 0), (27, .if_icmp .ne 7, 3, 0, 34, 0, 0), (30, .iload_n 2, 1, 0, 0, 0, 0), (31, .goto 4, 3, 0, 35, 0, 0), (34, .iload_n 1, 1, 0, 0, 0, 0), (35, .ireturn, 1, 1, 0, 0, 0), (36, .aload_n 0, 1, 0, 0, 0, 0), (37, .getfield 51, 3, 0, 9, 18, 1), (40, .iload_n 1, 1, 0, 0, 0, 0), (41, .iaload, 1, 0, 0, 0, 0), (42, .iconst 4, 1, 0, 0, 0, 0), (43, .if_icmp .ne 36, 3, 0, 79, 0, 0), (46, .aload_n 0, 1, 0, 0, 0, 0), (47, .aload_n 0, 1, 0, 0, 0, 0), (48, .getfield 54, 3, 0, 9, 19, 1), (51, .iload_n 1, 1, 0, 0, 0, 0), (52, .iaload, 1, 0, 0, 0, 0), (53, .iload_n 2, 1, 0, 0, 0, 0), (54, .iload_n 3, 1, 0, 0, 0, 0), (55, .invokevirtual 189, 3, 0, 139, 3, 912), (58, .istore 4, 2, 0, 0, 0, 0), (60, .aload_n 0, 1, 0, 0, 0, 0), (61, .iload 4, 2, 0, 0, 0, 0), (63, .aload_n 0, 1, 0, 0, 0, 0), (64, .aload_n 0, 1, 0, 0, 0, 0), (65, .getfield 57, 3, 0, 9, 20, 1), (68, .iload_n 1, 1, 0, 0, 0, 0), (69, .iaload, 1, 0, 0, 0, 0), (70, .iload_n 2, 1, 0, 0, 0, 0), (71, .iload_n 3, 1, 0, 0, 0, 0), (72, .invokevirtual 189, 3, 0, 139, 3, 912), (75, .invokevirtual 183, 3, 0, 135, 2, 912), (78, .ireturn, 1, 1, 0, 0, 0), (79, .aload_n 0, 1, 0, 0, 0, 0), (80, .getfield 51, 3, 0, 9, 18, 1), (83, .iload_n 1, 1, 0, 0, 0, 0), (84, .iaload, 1, 0, 0, 0, 0), (85, .iconst 5, 1, 0, 0, 0, 0), (86, .if_icmp .ne 30, 3, 0, 116, 0, 0), (89, .aload_n 0, 1, 0, 0, 0, 0), (90, .aload_n 0, 1, 0, 0, 0, 0), (91, .getfield 54, 3, 0, 9, 19, 1), (94, .iload_n 1, 1, 0, 0, 0, 0), (95, .iaload, 1, 0, 0, 0, 0), (96, .aload_n 0, 1, 0, 0, 0, 0), (97, .aload_n 0, 1, 0, 0, 0, 0), (98, .getfield 57, 3, 0, 9, 20, 1), (101, .iload_n 1, 1, 0, 0, 0, 0), (102, .iaload, 1, 0, 0, 0, 0), (103, .iload_n 2, 1, 0, 0, 0, 0), (104, .iload_n 3, 1, 0, 0, 0, 0), (105, .iconst 1, 1, 0, 0, 0, 0), (106, .iadd, 1, 0, 0, 0, 0), (107, .invokevirtual 189, 3, 0, 139, 3, 912), (110, .invokevirtual 186, 3, 0, 136, 2, 912), (113, .goto 4, 3, 0, 117, 0, 0), (116, .iload_n 1, 1, 0, 0, 0, 0), (117, .ireturn, 1, 1, 0, 0, 0)]
def am_m139 : am_M := (yX9_opened, cX9_opened, 5, (some .int), am_r139)
def am_r140 : List am_I := [(0, .aload_n 0, 1, 0, 0, 0, 0), (1, .getfield 151, 3, 0, 9, 45, 0), (4, .ifCond .eq 5, 3, 0, 9, 0, 0), (7, .iconst 0, 1, 0, 0, 0, 0), (8, .ireturn, 1, 1, 0, 0, 0), (9, .iload_n 1, 1, 0, 0, 0, 0), (10, .iload_n 2, 1, 0, 0, 0, 0), (11, .if_icmp .ne 5, 3, 0, 16, 0, 0), (14, .iload_n 3, 1, 0, 0, 0, 0), (15, .ireturn, 1, 1, 0, 0, 0), (16, .aload_n 0, 1, 0, 0, 0, 0), (17, .getfield 51, 3, 0, 9, 18, 1), (20, .iload_n 1, 1, 0, 0, 0, 0), (21, .iaload, 1, 0, 0, 0, 0), (22, .iconst 4, 1, 0, 0, 0, 0), (23, .if_icmp .ne 36, 3, 0, 59, 0, 0), (26, .aload_n 0, 1, 0, 0, 0, 0), (27, .aload_n 0, 1, 0, 0, 0, 0), (28, .getfield 54, 3, 0, 9, 19, 1), (31, .iload_n 1, 1, 0, 0, 0, 0), (32, .iaload, 1, 0, 0, 0, 0), (33, .iload_n 2, 1, 0, 0, 0, 0), (34, .iload_n 3, 1, 0, 0, 0, 0), (35, .invokevirtual 192, 3, 0, 140, 3, 912), (38, .istore 4, 2, 0, 0, 0, 0), (40, .aload_n 0, 1, 0, 0, 0, 0), (41, .iload 4, 2, 0, 0, 0, 0), (43, .aload_n 0, 1, 0, 0, 0, 0), (44, .aload_n 0, 1, 0, 0, 0, 0), (45, .getfield 57, 3, 0, 9, 20, 1), (48, .iload_n 1, 1, 0, 0, 0, 0), (49, .iaload, 1, 0, 0, 0, 0), (50, .iload_n 2, 1, 0, 0, 0, 0), (51, .iload_n 3, 1, 0, 0, 0, 0), (52, .invokevirtual 192, 3, 0, 140, 3, 912), (55, .invokevirtual 183, 3, 0, 135, 2, 912), (58, .ireturn, 1, 1, 0, 0, 0), (59, .aload_n 0, 1, 0, 0, 0, 0), (60, .getfield 51, 3, 0, 9, 18, 1), (63, .iload_n 1, 1, 0, 0, 0, 0), (64, .iaload, 1, 0, 0, 0, 0), (65, .iconst 5, 1, 0, 0, 0, 0), (66, .if_icmp .ne 28, 3, 0, 94, 0, 0), (69, .aload_n 0, 1, 0, 0, 0, 0), (70, .aload_n 0, 1, 0, 0, 0, 0), (71, .getfield 54, 3, 0, 9, 19, 1), (74, .iload_n 1, 1, 0, 0, 0, 0), (75, .iaload, 1, 0, 0, 0, 0), (76, .aload_n 0, 1, 0, 0, 0, 0), (77, .aload_n 0, 1, 0, 0, 0, 0), (78, .getfield 57, 3, 0, 9, 20, 1), (81, .iload_n 1, 1, 0, 0, 0, 0), (82, .iaload, 1, 0, 0, 0, 0), (83, .iload_n 2, 1, 0, 0, 0, 0), (84, .iload_n 3, 1, 0, 0, 0, 0), (85, .invokevirtual 192, 3, 0, 140, 3, 912), (88, .invokevirtual 186, 3, 0, 136, 2, 912), (91, .goto 4, 3, 0, 95, 0, 0), (94, .iload_n 1, 1, 0, 0, 0, 0), (95, .ireturn, 1, 1, 0, 0, 0)]
def am_m140 : am_M := (yX9_replaced, cX9_replaced, 5, (some .int), am_r140)
def am_r141 : List am_I := [(0, .aload_n 0, 1, 0, 0, 0, 0), (1, .getfield 151, 3, 0, 9, 45, 0), (4, .ifCond .eq 5, 3, 0, 9, 0, 0), (7, .iconst 0, 1, 0, 0, 0, 0), (8, .ireturn, 1, 1, 0, 0, 0), (9, .aload_n 0, 1, 0, 0, 0, 0), (10, .getfield 51, 3, 0, 9, 18, 1), (13, .iload_n 1, 1, 0, 0, 0, 0), (14, .iaload, 1, 0, 0, 0, 0), (15, .iconst 4, 1, 0, 0, 0, 0), (16, .if_icmp .ne 30, 3, 0, 46, 0, 0), (19, .aload_n 0, 1, 0, 0, 0, 0), (20, .aload_n 0, 1, 0, 0, 0, 0), (21, .getfield 54, 3, 0, 9, 19, 1), (24, .iload_n 1, 1, 0, 0, 0, 0), (25, .iaload, 1, 0, 0, 0, 0), (26, .invokevirtual 195, 3, 0, 141, 1, 912), (29, .istore_n 2, 1, 0, 0, 0, 0), (30, .aload_n 0, 1, 0, 0, 0, 0), (31, .iload_n 2, 1, 0, 0, 0, 0), (32, .aload_n 0, 1, 0, 0, 0, 0), (33, .aload_n 0, 1, 0, 0, 0, 0), (34, .getfield 57, 3, 0, 9, 20, 1), (37, .iload_n 1, 1, 0, 0, 0, 0), (38, .iaload, 1, 0, 0, 0, 0), (39, .invokevirtual 195, 3, 0, 141, 1, 912), (42, .invokevirtual 183, 3, 0, 135, 2, 912), (45, .ireturn, 1, 1, 0, 0, 0), (46, .aload_n 0, 1, 0, 0, 0, 0), (47, .getfield 51, 3, 0, 9, 18, 1), (50, .iload_n 1, 1, 0, 0, 0, 0), (51, .iaload, 1, 0, 0, 0, 0), (52, .iconst 5, 1, 0, 0, 0, 0), (53, .if_icmp .ne 30, 3, 0, 83, 0, 0), (56, .aload_n 0, 1, 0, 0, 0, 0), (57, .aload_n 0, 1, 0, 0, 0, 0), (58, .getfield 54, 3, 0, 9, 19, 1), (61, .iload_n 1, 1, 0, 0, 0, 0), (62, .iaload, 1, 0, 0, 0, 0), (63, .invokevirtual 170, 3, 0, 130, 1, 912), (66, .istore_n 2, 1, 0, 0, 0, 0), (67, .aload_n 0, 1, 0, 0, 0, 0), (68, .iload_n 2, 1, 0, 0, 0, 0), (69, .aload_n 0, 1, 0, 0, 0, 0), (70, .aload_n 0, 1, 0, 0, 0, 0), (71, .getfield 57, 3, 0, 9, 20, 1), (74, .iload_n 1, 1, 0, 0, 0, 0), (75, .iaload, 1, 0, 0, 0, 0), (76, .invokevirtual 195, 3, 0, 141, 1, 912), (79, .invokevirtual 186, 3, 0, 136, 2, 912), (82, .ireturn, 1, 1, 0, 0, 0), (83, .aload_n 0, 1, 0, 0, 0, 0), (84, .aload_n 0, 1, 0, 0, 0, 0), (85, .getfield 60, 3, 0, 9, 21, 1), (88, .iload_n 1, 1, 0, 0, 0, 0), (89, .iaload, 1, 0, 0, 0, 0), (90, .invokevirtual 170, 3, 0, 130, 1, 912), (93, .istore_n 2, 1, 0, 0, 0, 0), (94, .aload_n 0, 1, 0, 0, 0, 0), (95, .getfield 151, 3, 0, 9, 45, 0), (98, .ifCond .eq 7, 3, 0, 105, 0, 0), (101, .iconst 0, 1, 0, 0, 0, 0), (102, .goto 21, 3, 0, 123, 0, 0), (105, .aload_n 0, 1, 0, 0, 0, 0), (106, .aload_n 0, 1, 0, 0, 0, 0), (107, .getfield 51, 3, 0, 9, 18, 1), (110, .iload_n 1, 1, 0, 0, 0, 0), (111, .iaload, 1, 0, 0, 0, 0), (112, .aload_n 0, 1, 0, 0, 0, 0), (113, .getfield 54, 3, 0, 9, 19, 1), (116, .iload_n 1, 1, 0, 0, 0, 0), (117, .iaload, 1, 0, 0, 0, 0), (118, .iconst 0, 1, 0, 0, 0, 0), (119, .iload_n 2, 1, 0, 0, 0, 0), (120, .invokevirtual 177, 3, 0, 131, 4, 912), (123, .ireturn, 1, 1, 0, 0, 0)]
def am_m141 : am_M := (yX9_retyped, cX9_retyped, 3, (some .int), am_r141)
def am_r142 : List am_I := [(0, .iload_n 2, 1, 0, 0, 0, 0), (1, .iload_n 1, 1, 0, 0, 0, 0), (2, .if_icmp .eq 65, 3, 0, 67, 0, 0), (5, .aload_n 0, 1, 0, 0, 0, 0), (6, .getfield 51, 3, 0, 9, 18, 1), (9, .iload_n 2, 1, 0, 0, 0, 0), (10, .iaload, 1, 0, 0, 0, 0), (11, .iconst 4, 1, 0, 0, 0, 0), (12, .if_icmp .ne 31, 3, 0, 43, 0, 0), (15, .aload_n 0, 1, 0, 0, 0, 0), (16, .iload_n 1, 1, 0, 0, 0, 0), (17, .aload_n 0, 1, 0, 0, 0, 0), (18, .getfield 54, 3, 0, 9, 19, 1), (21, .iload_n 2, 1, 0, 0, 0, 0), (22, .iaload, 1, 0, 0, 0, 0), (23, .invokevirtual 198, 3, 0, 142, 2, 912), (26, .ifCond .ne 41, 3, 0, 67, 0, 0), (29, .aload_n 0, 1, 0, 0, 0, 0), (30, .iload_n 1, 1, 0, 0, 0, 0), (31, .aload_n 0, 1, 0, 0, 0, 0), (32, .getfield 57, 3, 0, 9, 20, 1), (35, .iload_n 2, 1, 0, 0, 0, 0), (36, .iaload, 1, 0, 0, 0, 0), (37, .invokevirtual 198, 3, 0, 142, 2, 912), (40, .ifCond .ne 27, 3, 0, 67, 0, 0), (43, .aload_n 0, 1, 0, 0, 0, 0), (44, .getfield 51, 3, 0, 9, 18, 1), (47, .iload_n 2, 1, 0, 0, 0, 0), (48, .iaload, 1, 0, 0, 0, 0), (49, .iconst 5, 1, 0, 0, 0, 0), (50, .if_icmp .ne 21, 3, 0, 71, 0, 0), (53, .aload_n 0, 1, 0, 0, 0, 0), (54, .iload_n 1, 1, 0, 0, 0, 0), (55, .aload_n 0, 1, 0, 0, 0, 0), (56, .getfield 57, 3, 0, 9, 20, 1), (59, .iload_n 2, 1, 0, 0, 0, 0), (60, .iaload, 1, 0, 0, 0, 0), (61, .invokevirtual 198, 3, 0, 142, 2, 912), (64, .ifCond .eq 7, 3, 0, 71, 0, 0), (67, .iconst 1, 1, 0, 0, 0, 0), (68, .goto 4, 3, 0, 72, 0, 0), (71, .iconst 0, 1, 0, 0, 0, 0), (72, .ireturn, 1, 1, 1, 0, 0)]
def am_m142 : am_M := (yX9_occurs, cX9_occurs, 3, (some .boolean), am_r142)
def am_r143 : List am_I := [(0, .aload_n 0, 1, 0, 0, 0, 0), (1, .getfield 51, 3, 0, 9, 18, 1), (4, .iload_n 1, 1, 0, 0, 0, 0), (5, .iaload, 1, 0, 0, 0, 0), (6, .bipush 6, 2, 0, 0, 0, 0), (8, .if_icmp .ne 29, 3, 0, 37, 0, 0), (11, .aload_n 0, 1, 0, 0, 0, 0), (12, .getfield 54, 3, 0, 9, 19, 1), (15, .iload_n 1, 1, 0, 0, 0, 0), (16, .iaload, 1, 0, 0, 0, 0), (17, .iload_n 2, 1, 0, 0, 0, 0), (18, .if_icmp .ne 13, 3, 0, 31, 0, 0), (21, .aload_n 0, 1, 0, 0, 0, 0), (22, .getfield 60, 3, 0, 9, 21, 1), (25, .iload_n 1, 1, 0, 0, 0, 0), (26, .iaload, 1, 0, 0, 0, 0), (27, .iload_n 3, 1, 0, 0, 0, 0), (28, .if_icmp .ne 7, 3, 0, 35, 0, 0), (31, .iconst 1, 1, 0, 0, 0, 0), (32, .goto 4, 3, 0, 36, 0, 0), (35, .iconst 0, 1, 0, 0, 0, 0), (36, .ireturn, 1, 1, 1, 0, 0), (37, .aload_n 0, 1, 0, 0, 0, 0), (38, .getfield 51, 3, 0, 9, 18, 1), (41, .iload_n 1, 1, 0, 0, 0, 0), (42, .iaload, 1, 0, 0, 0, 0), (43, .iconst 4, 1, 0, 0, 0, 0), (44, .if_icmp .ne 41, 3, 0, 85, 0, 0), (47, .aload_n 0, 1, 0, 0, 0, 0), (48, .aload_n 0, 1, 0, 0, 0, 0), (49, .getfield 54, 3, 0, 9, 19, 1), (52, .iload_n 1, 1, 0, 0, 0, 0), (53, .iaload, 1, 0, 0, 0, 0), (54, .iload_n 2, 1, 0, 0, 0, 0), (55, .iload_n 3, 1, 0, 0, 0, 0), (56, .invokevirtual 201, 3, 0, 143, 3, 912), (59, .ifCond .eq 22, 3, 0, 81, 0, 0), (62, .aload_n 0, 1, 0, 0, 0, 0), (63, .aload_n 0, 1, 0, 0, 0, 0), (64, .getfield 57, 3, 0, 9, 20, 1), (67, .iload_n 1, 1, 0, 0, 0, 0), (68, .iaload, 1, 0, 0, 0, 0), (69, .iload_n 2, 1, 0, 0, 0, 0), (70, .iload_n 3, 1, 0, 0, 0, 0), (71, .invokevirtual 201, 3, 0, 143, 3, 912), (74, .ifCond .eq 7, 3, 0, 81, 0, 0), (77, .iconst 1, 1, 0, 0, 0, 0), (78, .goto 39, 3, 0, 117, 0, 0), (81, .iconst 0, 1, 0, 0, 0, 0), (82, .goto 35, 3, 0, 117, 0, 0), (85, .aload_n 0, 1, 0, 0, 0, 0), (86, .getfield 51, 3, 0, 9, 18, 1), (89, .iload_n 1, 1, 0, 0, 0, 0), (90, .iaload, 1, 0, 0, 0, 0), (91, .iconst 5, 1, 0, 0, 0, 0), (92, .if_icmp .ne 20, 3, 0, 112, 0, 0), (95, .aload_n 0, 1, 0, 0, 0, 0), (96, .aload_n 0, 1, 0, 0, 0, 0), (97, .getfield 57, 3, 0, 9, 20, 1), (100, .iload_n 1, 1, 0, 0, 0, 0), (101, .iaload, 1, 0, 0, 0, 0), (102, .iload_n 2, 1, 0, 0, 0, 0), (103, .iconst 1, 1, 0, 0, 0, 0), (104, .iadd, 1, 0, 0, 0, 0), (105, .iload_n 3, 1, 0, 0, 0, 0), (106, .invokevirtual 201, 3, 0, 143, 3, 912), (109, .ifCond .eq 7, 3, 0, 116, 0, 0), (112, .iconst 1, 1, 0, 0, 0, 0), (113, .goto 4, 3, 0, 117, 0, 0), (116, .iconst 0, 1, 0, 0, 0, 0), (117, .ireturn, 1, 1, 1, 0, 0)]
def am_m143 : am_M := (yX9_isOf, cX9_isOf, 4, (some .boolean), am_r143)
def am_r144 : List am_I := [(0, .aload_n 0, 1, 0, 0, 0, 0), (1, .getfield 151, 3, 0, 9, 45, 0), (4, .ifCond .eq 5, 3, 0, 9, 0, 0), (7, .iconst 0, 1, 0, 0, 0, 0), (8, .ireturn, 1, 1, 0, 0, 0), (9, .aload_n 0, 1, 0, 0, 0, 0), (10, .getfield 60, 3, 0, 9, 21, 1), (13, .iload_n 1, 1, 0, 0, 0, 0), (14, .iaload, 1, 0, 0, 0, 0), (15, .istore_n 3, 1, 0, 0, 0, 0), (16, .aload_n 0, 1, 0, 0, 0, 0), (17, .iload_n 3, 1, 0, 0, 0, 0), (18, .aload_n 0, 1, 0, 0, 0, 0), (19, .invokevirtual 131, 3, 0, 127, 0, 912), (22, .invokevirtual 135, 3, 0, 128, 2, 912), (25, .istore 4, 2, 0, 0, 0, 0), (27, .aload_n 0, 1, 0, 0, 0, 0), (28, .getfield 151, 3, 0, 9, 45, 0), (31, .ifCond .eq 7, 3, 0, 38, 0, 0), (34, .iconst 0, 1, 0, 0, 0, 0), (35, .goto 10, 3, 0, 45, 0, 0), (38, .aload_n 0, 1, 0, 0, 0, 0), (39, .iload_n 3, 1, 0, 0, 0, 0), (40, .iload 4, 2, 0, 0, 0, 0), (42, .invokevirtual 135, 3, 0, 128, 2, 912), (45, .istore 5, 2, 0, 0, 0, 0), (47, .aload_n 0, 1, 0, 0, 0, 0), (48, .aload_n 0, 1, 0, 0, 0, 0), (49, .aload_n 0, 1, 0, 0, 0, 0), (50, .iconst 0, 1, 0, 0, 0, 0), (51, .iload 5, 2, 0, 0, 0, 0), (53, .invokevirtual 205, 3, 0, 133, 2, 912), (56, .iload_n 1, 1, 0, 0, 0, 0), (57, .invokevirtual 183, 3, 0, 135, 2, 912), (60, .iload_n 2, 1, 0, 0, 0, 0), (61, .invokevirtual 183, 3, 0, 135, 2, 912), (64, .ireturn, 1, 1, 0, 0, 0)]
def am_m144 : am_M := (yX9_equation, cX9_equation, 6, (some .int), am_r144)
def am_r145 : List am_I := [(0, .aload_n 0, 1, 0, 0, 0, 0), (1, .getfield 51, 3, 0, 9, 18, 1), (4, .iload_n 1, 1, 0, 0, 0, 0), (5, .iaload, 1, 0, 0, 0, 0), (6, .iconst 4, 1, 0, 0, 0, 0), (7, .if_icmp .ne 61, 3, 0, 68, 0, 0), (10, .aload_n 0, 1, 0, 0, 0, 0), (11, .getfield 51, 3, 0, 9, 18, 1), (14, .aload_n 0, 1, 0, 0, 0, 0), (15, .getfield 54, 3, 0, 9, 19, 1), (18, .iload_n 1, 1, 0, 0, 0, 0), (19, .iaload, 1, 0, 0, 0, 0), (20, .iaload, 1, 0, 0, 0, 0), (21, .iconst 4, 1, 0, 0, 0, 0), (22, .if_icmp .ne 46, 3, 0, 68, 0, 0), (25, .aload_n 0, 1, 0, 0, 0, 0), (26, .getfield 51, 3, 0, 9, 18, 1), (29, .aload_n 0, 1, 0, 0, 0, 0), (30, .getfield 54, 3, 0, 9, 19, 1), (33, .aload_n 0, 1, 0, 0, 0, 0), (34, .getfield 54, 3, 0, 9, 19, 1), (37, .iload_n 1, 1, 0, 0, 0, 0), (38, .iaload, 1, 0, 0, 0, 0), (39, .iaload, 1, 0, 0, 0, 0), (40, .iaload, 1, 0, 0, 0, 0), (41, .iconst 3, 1, 0, 0, 0, 0), (42, .if_icmp .ne 26, 3, 0, 68, 0, 0), (45, .aload_n 0, 1, 0, 0, 0, 0), (46, .getfield 54, 3, 0, 9, 19, 1), (49, .aload_n 0, 1, 0, 0, 0, 0), (50, .getfield 54, 3, 0, 9, 19, 1), (53, .aload_n 0, 1, 0, 0, 0, 0), (54, .getfield 54, 3, 0, 9, 19, 1), (57, .iload_n 1, 1, 0, 0, 0, 0), (58, .iaload, 1, 0, 0, 0, 0), (59, .iaload, 1, 0, 0, 0, 0), (60, .iaload, 1, 0, 0, 0, 0), (61, .ifCond .ne 7, 3, 0, 68, 0, 0), (64, .iconst 1, 1, 0, 0, 0, 0), (65, .goto 4, 3, 0, 69, 0, 0), (68, .iconst 0, 1, 0, 0, 0, 0), (69, .ireturn, 1, 1, 1, 0, 0)]
def am_m145 : am_M := (yX9_isEquation, cX9_isEquation, 2, (some .boolean), am_r145)
def am_r146 : List am_I := [(0, .aload_n 0, 1, 0, 0, 0, 0), (1, .getfield 57, 3, 0, 9, 20, 1), (4, .aload_n 0, 1, 0, 0, 0, 0), (5, .getfield 54, 3, 0, 9, 19, 1), (8, .iload_n 1, 1, 0, 0, 0, 0), (9, .iaload, 1, 0, 0, 0, 0), (10, .iaload, 1, 0, 0, 0, 0), (11, .ireturn, 1, 1, 0, 0, 0)]
def am_m146 : am_M := (yX9_leftOf, cX9_leftOf, 2, (some .int), am_r146)
def am_r147 : List am_I := [(0, .aload_n 0, 1, 0, 0, 0, 0), (1, .aload_n 0, 1, 0, 0, 0, 0), (2, .getfield 208, 3, 0, 9, 49, 0), (5, .aload_n 0, 1, 0, 0, 0, 0), (6, .getfield 211, 3, 0, 9, 1, 0), (9, .if_icmp .ge 7, 3, 0, 16, 0, 0), (12, .iconst 1, 1, 0, 0, 0, 0), (13, .goto 4, 3, 0, 17, 0, 0), (16, .iconst 0, 1, 0, 0, 0, 0), (17, .invokevirtual 159, 3, 0, 124, 1, 912), (20, .ifCond .ne 5, 3, 0, 25, 0, 0), (23, .iconst 0, 1, 0, 0, 0, 0), (24, .ireturn, 1, 1, 0, 0, 0), (25, .aload_n 0, 1, 0, 0, 0, 0), (26, .dup, 1, 0, 0, 0, 0), (27, .getfield 208, 3, 0, 9, 49, 0), (30, .iconst 1, 1, 0, 0, 0, 0), (31, .iadd, 1, 0, 0, 0, 0), (32, .putfield 208, 3, 0, 9, 49, 0), (35, .aload_n 0, 1, 0, 0, 0, 0), (36, .getfield 7, 3, 0, 9, 2, 1), (39, .aload_n 0, 1, 0, 0, 0, 0), (40, .getfield 208, 3, 0, 9, 49, 0), (43, .iconst 1, 1, 0, 0, 0, 0), (44, .isub, 1, 0, 0, 0, 0), (45, .iaload, 1, 0, 0, 0, 0), (46, .ireturn, 1, 1, 0, 0, 0)]
def am_m147 : am_M := (yX9_next, cX9_next, 1, (some .int), am_r147)
def am_r148 : List am_I := [(0, .aload_n 0, 1, 0, 0, 0, 0), (1, .invokevirtual 214, 3, 0, 147, 0, 912), (4, .istore_n 1, 1, 0, 0, 0, 0), (5, .aload_n 0, 1, 0, 0, 0, 0), (6, .iload_n 1, 1, 0, 0, 0, 0), (7, .aload_n 0, 1, 0, 0, 0, 0), (8, .getfield 217, 3, 0, 9, 28, 0), (11, .invokestatic 220, 3, 0, 123, 2, 13), (14, .ifCond .ne 7, 3, 0, 21, 0, 0), (17, .iconst 1, 1, 0, 0, 0, 0), (18, .goto 4, 3, 0, 22, 0, 0), (21, .iconst 0, 1, 0, 0, 0, 0), (22, .invokevirtual 159, 3, 0, 124, 1, 912), (25, .ifCond .eq 12, 3, 0, 37, 0, 0), (28, .aload_n 0, 1, 0, 0, 0, 0), (29, .getfield 81, 3, 0, 9, 30, 1), (32, .iload_n 1, 1, 0, 0, 0, 0), (33, .iaload, 1, 0, 0, 0, 0), (34, .goto 4, 3, 0, 38, 0, 0), (37, .iconst 0, 1, 0, 0, 0, 0), (38, .ireturn, 1, 1, 0, 0, 0)]
def am_m148 : am_M := (yX9_nextType, cX9_nextType, 2, (some .int), am_r148)
def am_r149 : List am_I := [(0, .aload_n 0, 1, 0, 0, 0, 0), (1, .invokevirtual 214, 3, 0, 147, 0, 912), (4, .istore_n 1, 1, 0, 0, 0, 0), (5, .aload_n 0, 1, 0, 0, 0, 0), (6, .iload_n 1, 1, 0, 0, 0, 0), (7, .aload_n 0, 1, 0, 0, 0, 0), (8, .getfield 223, 3, 0, 9, 29, 0), (11, .invokestatic 220, 3, 0, 123, 2, 13), (14, .ifCond .ne 7, 3, 0, 21, 0, 0), (17, .iconst 1, 1, 0, 0, 0, 0), (18, .goto 4, 3, 0, 22, 0, 0), (21, .iconst 0, 1, 0, 0, 0, 0), (22, .invokevirtual 159, 3, 0, 124, 1, 912), (25, .ifCond .eq 12, 3, 0, 37, 0, 0), (28, .aload_n 0, 1, 0, 0, 0, 0), (29, .getfield 84, 3, 0, 9, 31, 1), (32, .iload_n 1, 1, 0, 0, 0, 0), (33, .iaload, 1, 0, 0, 0, 0), (34, .goto 4, 3, 0, 38, 0, 0), (37, .iconst 0, 1, 0, 0, 0, 0), (38, .ireturn, 1, 1, 0, 0, 0)]
def am_m149 : am_M := (yX9_nextTerm, cX9_nextTerm, 2, (some .int), am_r149)
def am_r150 : List am_I := [(0, .aload_n 0, 1, 0, 0, 0, 0), (1, .invokevirtual 226, 3, 0, 149, 0, 912), (4, .istore_n 1, 1, 0, 0, 0, 0), (5, .aload_n 0, 1, 0, 0, 0, 0), (6, .aload_n 0, 1, 0, 0, 0, 0), (7, .getfield 151, 3, 0, 9, 45, 0), (10, .ifCond .ne 12, 3, 0, 22, 0, 0), (13, .aload_n 0, 1, 0, 0, 0, 0), (14, .getfield 69, 3, 0, 9, 24, 1), (17, .iload_n 1, 1, 0, 0, 0, 0), (18, .iaload, 1, 0, 0, 0, 0), (19, .ifCond .ne 7, 3, 0, 26, 0, 0), (22, .iconst 1, 1, 0, 0, 0, 0), (23, .goto 4, 3, 0, 27, 0, 0), (26, .iconst 0, 1, 0, 0, 0, 0), (27, .invokevirtual 159, 3, 0, 124, 1, 912), (30, .pop, 1, 0, 0, 0, 0), (31, .iload_n 1, 1, 0, 0, 0, 0), (32, .ireturn, 1, 1, 0, 0, 0)]
def am_m150 : am_M := (yX9_nextClosed, cX9_nextClosed, 2, (some .int), am_r150)
def am_r151 : List am_I := [(0, .aload_n 0, 1, 0, 0, 0, 0), (1, .invokevirtual 214, 3, 0, 147, 0, 912), (4, .istore_n 1, 1, 0, 0, 0, 0), (5, .aload_n 0, 1, 0, 0, 0, 0), (6, .iload_n 1, 1, 0, 0, 0, 0), (7, .aload_n 0, 1, 0, 0, 0, 0), (8, .getfield 229, 3, 0, 9, 32, 0), (11, .invokestatic 220, 3, 0, 123, 2, 13), (14, .ifCond .ne 7, 3, 0, 21, 0, 0), (17, .iconst 1, 1, 0, 0, 0, 0), (18, .goto 4, 3, 0, 22, 0, 0), (21, .iconst 0, 1, 0, 0, 0, 0), (22, .invokevirtual 159, 3, 0, 124, 1, 912), (25, .ifCond .eq 7, 3, 0, 32, 0, 0), (28, .iload_n 1, 1, 0, 0, 0, 0), (29, .goto 4, 3, 0, 33, 0, 0), (32, .iconst 0, 1, 0, 0, 0, 0), (33, .ireturn, 1, 1, 0, 0, 0)]
def am_m151 : am_M := (yX9_nextSequent, cX9_nextSequent, 2, (some .int), am_r151)
def am_r152 : List am_I := [(0, .aload_n 0, 1, 0, 0, 0, 0), (1, .aload_n 0, 1, 0, 0, 0, 0), (2, .getfield 217, 3, 0, 9, 28, 0), (5, .sipush 8000, 3, 0, 0, 0, 0), (8, .if_icmp .ge 7, 3, 0, 15, 0, 0), (11, .iconst 1, 1, 0, 0, 0, 0), (12, .goto 4, 3, 0, 16, 0, 0), (15, .iconst 0, 1, 0, 0, 0, 0), (16, .invokevirtual 159, 3, 0, 124, 1, 912), (19, .ifCond .ne 4, 3, 0, 23, 0, 0), (22, .return_, 1, 1, 0, 0, 0), (23, .aload_n 0, 1, 0, 0, 0, 0), (24, .getfield 81, 3, 0, 9, 30, 1), (27, .aload_n 0, 1, 0, 0, 0, 0), (28, .getfield 217, 3, 0, 9, 28, 0), (31, .iload_n 1, 1, 0, 0, 0, 0), (32, .iastore, 1, 0, 0, 0, 0), (33, .aload_n 0, 1, 0, 0, 0, 0), (34, .dup, 1, 0, 0, 0, 0), (35, .getfield 217, 3, 0, 9, 28, 0), (38, .iconst 1, 1, 0, 0, 0, 0), (39, .iadd, 1, 0, 0, 0, 0), (40, .putfield 217, 3, 0, 9, 28, 0), (43, .return_, 1, 1, 0, 0, 0)]
def am_m152 : am_M := (yX9_keepType, cX9_keepType, 2, none, am_r152)
def am_r153 : List am_I := [(0, .aload_n 0, 1, 0, 0, 0, 0), (1, .aload_n 0, 1, 0, 0, 0, 0), (2, .getfield 223, 3, 0, 9, 29, 0), (5, .sipush 16000, 3, 0, 0, 0, 0), (8, .if_icmp .ge 7, 3, 0, 15, 0, 0), (11, .iconst 1, 1, 0, 0, 0, 0), (12, .goto 4, 3, 0, 16, 0, 0), (15, .iconst 0, 1, 0, 0, 0, 0), (16, .invokevirtual 159, 3, 0, 124, 1, 912), (19, .ifCond .ne 4, 3, 0, 23, 0, 0), (22, .return_, 1, 1, 0, 0, 0), (23, .aload_n 0, 1, 0, 0, 0, 0), (24, .getfield 84, 3, 0, 9, 31, 1), (27, .aload_n 0, 1, 0, 0, 0, 0), (28, .getfield 223, 3, 0, 9, 29, 0), (31, .iload_n 1, 1, 0, 0, 0, 0), (32, .iastore, 1, 0, 0, 0, 0), (33, .aload_n 0, 1, 0, 0, 0, 0), (34, .dup, 1, 0, 0, 0, 0), (35, .getfield 223, 3, 0, 9, 29, 0), (38, .iconst 1, 1, 0, 0, 0, 0), (39, .iadd, 1, 0, 0, 0, 0), (40, .putfield 223, 3, 0, 9, 29, 0), (43, .return_, 1, 1, 0, 0, 0)]
def am_m153 : am_M := (yX9_keepTerm, cX9_keepTerm, 2, none, am_r153)
def am_r154 : List am_I := [(0, .aload_n 0, 1, 0, 0, 0, 0), (1, .invokevirtual 214, 3, 0, 147, 0, 912), (4, .istore_n 2, 1, 0, 0, 0, 0), (5, .iload_n 1, 1, 0, 0, 0, 0), (6, .ifCond .ne 38, 3, 0, 44, 0, 0), (9, .aload_n 0, 1, 0, 0, 0, 0), (10, .iload_n 2, 1, 0, 0, 0, 0), (11, .ldc 232, 2, 0, 100000000, 0, 0), (13, .invokestatic 220, 3, 0, 123, 2, 13), (16, .ifCond .ne 7, 3, 0, 23, 0, 0), (19, .iconst 1, 1, 0, 0, 0, 0), (20, .goto 4, 3, 0, 24, 0, 0), (23, .iconst 0, 1, 0, 0, 0, 0), (24, .invokevirtual 159, 3, 0, 124, 1, 912), (27, .ifCond .eq 16, 3, 0, 43, 0, 0), (30, .aload_n 0, 1, 0, 0, 0, 0), (31, .aload_n 0, 1, 0, 0, 0, 0), (32, .iconst (-1), 1, 0, 0, 0, 0), (33, .iload_n 2, 1, 0, 0, 0, 0), (34, .isub, 1, 0, 0, 0, 0), (35, .iconst (-1), 1, 0, 0, 0, 0), (36, .iconst (-1), 1, 0, 0, 0, 0), (37, .invokevirtual 127, 3, 0, 126, 3, 912), (40, .invokevirtual 233, 3, 0, 152, 1, 902), (43, .return_, 1, 1, 0, 0, 0), (44, .aload_n 0, 1, 0, 0, 0, 0), (45, .iload_n 2, 1, 0, 0, 0, 0), (46, .aload_n 0, 1, 0, 0, 0, 0), (47, .getfield 41, 3, 0, 9, 13, 0), (50, .invokestatic 220, 3, 0, 123, 2, 13), (53, .ifCond .ne 7, 3, 0, 60, 0, 0), (56, .iconst 1, 1, 0, 0, 0, 0), (57, .goto 4, 3, 0, 61, 0, 0), (60, .iconst 0, 1, 0, 0, 0, 0), (61, .invokevirtual 159, 3, 0, 124, 1, 912), (64, .ifCond .ne 4, 3, 0, 68, 0, 0), (67, .return_, 1, 1, 0, 0, 0), (68, .aload_n 0, 1, 0, 0, 0, 0), (69, .getfield 44, 3, 0, 9, 14, 1), (72, .iload_n 2, 1, 0, 0, 0, 0), (73, .iaload, 1, 0, 0, 0, 0), (74, .ifCond .le 10, 3, 0, 84, 0, 0), (77, .aload_n 0, 1, 0, 0, 0, 0), (78, .invokevirtual 237, 3, 0, 148, 0, 912), (81, .goto 4, 3, 0, 85, 0, 0), (84, .iconst (-1), 1, 0, 0, 0, 0), (85, .istore_n 3, 1, 7, 0, 0, 0), (86, .aload_n 0, 1, 0, 0, 0, 0), (87, .getfield 44, 3, 0, 9, 14, 1), (90, .iload_n 2, 1, 0, 0, 0, 0), (91, .iaload, 1, 0, 0, 0, 0), (92, .iconst 1, 1, 0, 0, 0, 0), (93, .if_icmp .le 10, 3, 0, 103, 0, 0), (96, .aload_n 0, 1, 0, 0, 0, 0), (97, .invokevirtual 237, 3, 0, 148, 0, 912), (100, .goto 4, 3, 0, 104, 0, 0), (103, .iconst (-1), 1, 0, 0, 0, 0), (104, .istore 4, 2, 0, 0, 0, 0), (106, .aload_n 0, 1, 0, 0, 0, 0), (107, .getfield 151, 3, 0, 9, 45, 0), (110, .ifCond .ne 15, 3, 0, 125, 0, 0), (113, .aload_n 0, 1, 0, 0, 0, 0), (114, .aload_n 0, 1, 0, 0, 0, 0), (115, .iload_n 2, 1, 0, 0, 0, 0), (116, .iload_n 3, 1, 0, 0, 0, 0), (117, .iload 4, 2, 0, 0, 0, 0), (119, .invokevirtual 127, 3, 0, 126, 3, 912), (122, .invokevirtual 233, 3, 0, 152, 1, 902), (125, .return_, 1, 1, 0, 0, 0)]
def am_m154 : am_M := (yX9_readType, cX9_readType, 5, none, am_r154)
def am_r155 : List am_I := [(0, .iload_n 1, 1, 0, 0, 0, 0), (1, .iconst 4, 1, 0, 0, 0, 0), (2, .if_icmp .ne 44, 3, 0, 46, 0, 0), (5, .aload_n 0, 1, 0, 0, 0, 0), (6, .invokevirtual 226, 3, 0, 149, 0, 912), (9, .istore_n 2, 1, 0, 0, 0, 0), (10, .aload_n 0, 1, 0, 0, 0, 0), (11, .invokevirtual 226, 3, 0, 149, 0, 912), (14, .istore_n 3, 1, 0, 0, 0, 0), (15, .aload_n 0, 1, 0, 0, 0, 0), (16, .getfield 151, 3, 0, 9, 45, 0), (19, .ifCond .ne 26, 3, 0, 45, 0, 0), (22, .aload_n 0, 1, 0, 0, 0, 0), (23, .aload_n 0, 1, 0, 0, 0, 0), (24, .iload_n 2, 1, 0, 0, 0, 0), (25, .iload_n 3, 1, 0, 0, 0, 0), (26, .invokevirtual 240, 3, 0, 134, 2, 912), (29, .invokevirtual 159, 3, 0, 124, 1, 912), (32, .ifCond .eq 13, 3, 0, 45, 0, 0), (35, .aload_n 0, 1, 0, 0, 0, 0), (36, .aload_n 0, 1, 0, 0, 0, 0), (37, .iload_n 2, 1, 0, 0, 0, 0), (38, .iload_n 3, 1, 0, 0, 0, 0), (39, .invokevirtual 183, 3, 0, 135, 2, 912), (42, .invokevirtual 243, 3, 0, 153, 1, 902), (45, .return_, 1, 1, 0, 0, 0), (46, .iload_n 1, 1, 0, 0, 0, 0), (47, .iconst 5, 1, 0, 0, 0, 0), (48, .if_icmp .ne 45, 3, 0, 93, 0, 0), (51, .aload_n 0, 1, 0, 0, 0, 0), (52, .invokevirtual 237, 3, 0, 148, 0, 912), (55, .istore_n 2, 1, 0, 0, 0, 0), (56, .aload_n 0, 1, 0, 0, 0, 0), (57, .invokevirtual 226, 3, 0, 149, 0, 912), (60, .istore_n 3, 1, 0, 0, 0, 0), (61, .aload_n 0, 1, 0, 0, 0, 0), (62, .getfield 151, 3, 0, 9, 45, 0), (65, .ifCond .ne 27, 3, 0, 92, 0, 0), (68, .aload_n 0, 1, 0, 0, 0, 0), (69, .aload_n 0, 1, 0, 0, 0, 0), (70, .iload_n 3, 1, 0, 0, 0, 0), (71, .iconst 0, 1, 0, 0, 0, 0), (72, .iload_n 2, 1, 0, 0, 0, 0), (73, .invokevirtual 201, 3, 0, 143, 3, 912), (76, .invokevirtual 159, 3, 0, 124, 1, 912), (79, .ifCond .eq 13, 3, 0, 92, 0, 0), (82, .aload_n 0, 1, 0, 0, 0, 0), (83, .aload_n 0, 1, 0, 0, 0, 0), (84, .iload_n 2, 1, 0, 0, 0, 0), (85, .iload_n 3, 1, 0, 0, 0, 0), (86, .invokevirtual 186, 3, 0, 136, 2, 912), (89, .invokevirtual 243, 3, 0, 153, 1, 902), (92, .return_, 1, 1, 0, 0, 0), (93, .aload_n 0, 1, 0, 0, 0, 0), (94, .invokevirtual 214, 3, 0, 147, 0, 912), (97, .istore_n 2, 1, 0, 0, 0, 0), (98, .aload_n 0, 1, 0, 0, 0, 0), (99, .invokevirtual 237, 3, 0, 148, 0, 912), (102, .istore_n 3, 1, 0, 0, 0, 0), (103, .aload_n 0, 1, 0, 0, 0, 0), (104, .getfield 151, 3, 0, 9, 45, 0), (107, .ifCond .eq 4, 3, 0, 111, 0, 0), (110, .return_, 1, 1, 0, 0, 0), (111, .iload_n 1, 1, 0, 0, 0, 0), (112, .iconst 3, 1, 0, 0, 0, 0), (113, .if_icmp .ne 46, 3, 0, 159, 0, 0), (116, .aload_n 0, 1, 0, 0, 0, 0), (117, .iconst 0, 1, 0, 0, 0, 0), (118, .putfield 163, 3, 0, 9, 46, 0), (121, .aload_n 0, 1, 0, 0, 0, 0), (122, .iload_n 2, 1, 0, 0, 0, 0), (123, .aload_n 0, 1, 0, 0, 0, 0), (124, .getfield 139, 3, 0, 9, 15, 0), (127, .invokestatic 220, 3, 0, 123, 2, 13), (130, .ifCond .ne 21, 3, 0, 151, 0, 0), (133, .aload_n 0, 1, 0, 0, 0, 0), (134, .aload_n 0, 1, 0, 0, 0, 0), (135, .getfield 47, 3, 0, 9, 16, 1), (138, .iload_n 2, 1, 0, 0, 0, 0), (139, .iaload, 1, 0, 0, 0, 0), (140, .iload_n 3, 1, 0, 0, 0, 0), (141, .invokevirtual 166, 3, 0, 129, 2, 912), (144, .ifCond .eq 7, 3, 0, 151, 0, 0), (147, .iconst 1, 1, 0, 0, 0, 0), (148, .goto 4, 3, 0, 152, 0, 0), (151, .iconst 0, 1, 0, 0, 0, 0), (152, .invokevirtual 159, 3, 0, 124, 1, 912), (155, .pop, 1, 0, 0, 0, 0), (156, .goto 32, 3, 0, 188, 0, 0), (159, .aload_n 0, 1, 0, 0, 0, 0), (160, .iload_n 2, 1, 0, 0, 0, 0), (161, .iload_n 1, 1, 0, 0, 0, 0), (162, .iconst 2, 1, 0, 0, 0, 0), (163, .if_icmp .ne 8, 3, 0, 171, 0, 0), (166, .ldc 232, 2, 0, 100000000, 0, 0), (168, .goto 5, 3, 0, 173, 0, 0), (171, .bipush 120, 2, 0, 0, 0, 0), (173, .invokestatic 220, 3, 0, 123, 2, 13), (176, .ifCond .ne 7, 3, 0, 183, 0, 0), (179, .iconst 1, 1, 0, 0, 0, 0), (180, .goto 4, 3, 0, 184, 0, 0), (183, .iconst 0, 1, 0, 0, 0, 0), (184, .invokevirtual 159, 3, 0, 124, 1, 912), (187, .pop, 1, 0, 0, 0, 0), (188, .aload_n 0, 1, 17, 0, 0, 0), (189, .getfield 151, 3, 0, 9, 45, 0), (192, .ifCond .ne 15, 3, 0, 207, 0, 0), (195, .aload_n 0, 1, 0, 0, 0, 0), (196, .aload_n 0, 1, 0, 0, 0, 0), (197, .iload_n 1, 1, 0, 0, 0, 0), (198, .iload_n 2, 1, 0, 0, 0, 0), (199, .iconst 0, 1, 0, 0, 0, 0), (200, .iload_n 3, 1, 0, 0, 0, 0), (201, .invokevirtual 177, 3, 0, 131, 4, 912), (204, .invokevirtual 243, 3, 0, 153, 1, 902), (207, .return_, 1, 1, 0, 0, 0)]
def am_m155 : am_M := (yX9_readTerm, cX9_readTerm, 4, none, am_r155)
def am_r156 : List am_I := [(0, .aload_n 0, 1, 0, 0, 0, 0), (1, .getfield 151, 3, 0, 9, 45, 0), (4, .ifCond .eq 4, 3, 0, 8, 0, 0), (7, .return_, 1, 1, 0, 0, 0), (8, .iconst 0, 1, 0, 0, 0, 0), (9, .istore_n 2, 1, 0, 0, 0, 0), (10, .iload_n 2, 1, 9, 0, 0, 0), (11, .aload_n 0, 1, 0, 0, 0, 0), (12, .getfield 93, 3, 0, 9, 37, 1), (15, .aload_n 0, 1, 0, 0, 0, 0), (16, .getfield 229, 3, 0, 9, 32, 0), (19, .iaload, 1, 0, 0, 0, 0), (20, .if_icmp .ge 25, 3, 0, 45, 0, 0), (23, .aload_n 0, 1, 0, 0, 0, 0), (24, .getfield 112, 3, 0, 9, 43, 1), (27, .aload_n 0, 1, 0, 0, 0, 0), (28, .getfield 246, 3, 0, 9, 33, 0), (31, .iload_n 2, 1, 0, 0, 0, 0), (32, .iadd, 1, 0, 0, 0, 0), (33, .iaload, 1, 0, 0, 0, 0), (34, .iload_n 1, 1, 0, 0, 0, 0), (35, .if_icmp .ne 4, 3, 0, 39, 0, 0), (38, .return_, 1, 1, 0, 0, 0), (39, .iinc 2 1, 3, 0, 0, 0, 0), (42, .goto (-32), 3, 0, 10, 0, 0), (45, .aload_n 0, 1, 0, 0, 0, 0), (46, .aload_n 0, 1, 0, 0, 0, 0), (47, .getfield 93, 3, 0, 9, 37, 1), (50, .aload_n 0, 1, 0, 0, 0, 0), (51, .getfield 229, 3, 0, 9, 32, 0), (54, .iaload, 1, 0, 0, 0, 0), (55, .bipush 60, 2, 0, 0, 0, 0), (57, .if_icmp .ge 7, 3, 0, 64, 0, 0), (60, .iconst 1, 1, 0, 0, 0, 0), (61, .goto 4, 3, 0, 65, 0, 0), (64, .iconst 0, 1, 0, 0, 0, 0), (65, .invokevirtual 159, 3, 0, 124, 1, 912), (68, .ifCond .ne 4, 3, 0, 72, 0, 0), (71, .return_, 1, 1, 0, 0, 0), (72, .aload_n 0, 1, 0, 0, 0, 0), (73, .getfield 112, 3, 0, 9, 43, 1), (76, .aload_n 0, 1, 0, 0, 0, 0), (77, .getfield 246, 3, 0, 9, 33, 0), (80, .aload_n 0, 1, 0, 0, 0, 0), (81, .getfield 93, 3, 0, 9, 37, 1), (84, .aload_n 0, 1, 0, 0, 0, 0), (85, .getfield 229, 3, 0, 9, 32, 0), (88, .iaload, 1, 0, 0, 0, 0), (89, .iadd, 1, 0, 0, 0, 0), (90, .iload_n 1, 1, 0, 0, 0, 0), (91, .iastore, 1, 0, 0, 0, 0), (92, .aload_n 0, 1, 0, 0, 0, 0), (93, .getfield 93, 3, 0, 9, 37, 1), (96, .aload_n 0, 1, 0, 0, 0, 0), (97, .getfield 229, 3, 0, 9, 32, 0), (100, .dup2, 1, 0, 0, 0, 0), (101, .iaload, 1, 0, 0, 0, 0), (102, .iconst 1, 1, 0, 0, 0, 0), (103, .iadd, 1, 0, 0, 0, 0), (104, .iastore, 1, 0, 0, 0, 0), (105, .return_, 1, 1, 0, 0, 0)]
def am_m156 : am_M := (yX9_add, cX9_add, 3, none, am_r156)
def am_r157 : List am_I := [(0, .iconst 0, 1, 0, 0, 0, 0), (1, .istore_n 3, 1, 0, 0, 0, 0), (2, .iload_n 3, 1, 17, 0, 0, 0), (3, .aload_n 0, 1, 0, 0, 0, 0), (4, .getfield 93, 3, 0, 9, 37, 1), (7, .iload_n 1, 1, 0, 0, 0, 0), (8, .iaload, 1, 0, 0, 0, 0), (9, .if_icmp .ge 43, 3, 0, 52, 0, 0), (12, .aload_n 0, 1, 0, 0, 0, 0), (13, .getfield 112, 3, 0, 9, 43, 1), (16, .aload_n 0, 1, 0, 0, 0, 0), (17, .getfield 90, 3, 0, 9, 36, 1), (20, .iload_n 1, 1, 0, 0, 0, 0), (21, .iaload, 1, 0, 0, 0, 0), (22, .iload_n 3, 1, 0, 0, 0, 0), (23, .iadd, 1, 0, 0, 0, 0), (24, .iaload, 1, 0, 0, 0, 0), (25, .iload_n 2, 1, 0, 0, 0, 0), (26, .if_icmp .eq 20, 3, 0, 46, 0, 0), (29, .aload_n 0, 1, 0, 0, 0, 0), (30, .aload_n 0, 1, 0, 0, 0, 0), (31, .getfield 112, 3, 0, 9, 43, 1), (34, .aload_n 0, 1, 0, 0, 0, 0), (35, .getfield 90, 3, 0, 9, 36, 1), (38, .iload_n 1, 1, 0, 0, 0, 0), (39, .iaload, 1, 0, 0, 0, 0), (40, .iload_n 3, 1, 0, 0, 0, 0), (41, .iadd, 1, 0, 0, 0, 0), (42, .iaload, 1, 0, 0, 0, 0), (43, .invokevirtual 249, 3, 0, 156, 1, 902), (46, .iinc 3 1, 3, 0, 0, 0, 0), (49, .goto (-47), 3, 0, 2, 0, 0), (52, .return_, 1, 1, 0, 0, 0)]
def am_m157 : am_M := (yX9_addAll, cX9_addAll, 4, none, am_r157)
def am_r158 : List am_I := [(0, .aload_n 0, 1, 0, 0, 0, 0), (1, .getfield 90, 3, 0, 9, 36, 1), (4, .aload_n 0, 1, 0, 0, 0, 0), (5, .getfield 229, 3, 0, 9, 32, 0), (8, .aload_n 0, 1, 0, 0, 0, 0), (9, .getfield 246, 3, 0, 9, 33, 0), (12, .iastore, 1, 0, 0, 0, 0), (13, .aload_n 0, 1, 0, 0, 0, 0), (14, .getfield 93, 3, 0, 9, 37, 1), (17, .aload_n 0, 1, 0, 0, 0, 0), (18, .getfield 229, 3, 0, 9, 32, 0), (21, .iconst 0, 1, 0, 0, 0, 0), (22, .iastore, 1, 0, 0, 0, 0), (23, .aload_n 0, 1, 0, 0, 0, 0), (24, .aload_n 0, 1, 0, 0, 0, 0), (25, .getfield 229, 3, 0, 9, 32, 0), (28, .sipush 1000, 3, 0, 0, 0, 0), (31, .if_icmp .ge 7, 3, 0, 38, 0, 0), (34, .iconst 1, 1, 0, 0, 0, 0), (35, .goto 4, 3, 0, 39, 0, 0), (38, .iconst 0, 1, 0, 0, 0, 0), (39, .invokevirtual 159, 3, 0, 124, 1, 912), (42, .pop, 1, 0, 0, 0, 0), (43, .return_, 1, 1, 0, 0, 0)]
def am_m158 : am_M := (yX9_open, cX9_open, 1, none, am_r158)
def am_r159 : List am_I := [(0, .aload_n 0, 1, 0, 0, 0, 0), (1, .getfield 151, 3, 0, 9, 45, 0), (4, .ifCond .eq 4, 3, 0, 8, 0, 0), (7, .return_, 1, 1, 0, 0, 0), (8, .aload_n 0, 1, 0, 0, 0, 0), (9, .getfield 63, 3, 0, 9, 22, 1), (12, .iload_n 1, 1, 0, 0, 0, 0), (13, .iaload, 1, 0, 0, 0, 0), (14, .istore_n 3, 1, 0, 0, 0, 0), (15, .iconst 0, 1, 0, 0, 0, 0), (16, .istore 4, 2, 0, 0, 0, 0), (18, .iload 4, 2, 33, 0, 0, 0), (20, .aload_n 0, 1, 0, 0, 0, 0), (21, .getfield 93, 3, 0, 9, 37, 1), (24, .aload_n 0, 1, 0, 0, 0, 0), (25, .getfield 229, 3, 0, 9, 32, 0), (28, .iaload, 1, 0, 0, 0, 0), (29, .if_icmp .ge 29, 3, 0, 58, 0, 0), (32, .iload_n 3, 1, 0, 0, 0, 0), (33, .aload_n 0, 1, 0, 0, 0, 0), (34, .getfield 63, 3, 0, 9, 22, 1), (37, .aload_n 0, 1, 0, 0, 0, 0), (38, .getfield 112, 3, 0, 9, 43, 1), (41, .aload_n 0, 1, 0, 0, 0, 0), (42, .getfield 246, 3, 0, 9, 33, 0), (45, .iload 4, 2, 0, 0, 0, 0), (47, .iadd, 1, 0, 0, 0, 0), (48, .iaload, 1, 0, 0, 0, 0), (49, .iaload, 1, 0, 0, 0, 0), (50, .iadd, 1, 0, 0, 0, 0), (51, .istore_n 3, 1, 0, 0, 0, 0), (52, .iinc 4 1, 3, 0, 0, 0, 0), (55, .goto (-37), 3, 0, 18, 0, 0), (58, .aload_n 0, 1, 0, 0, 0, 0), (59, .aload_n 0, 1, 0, 0, 0, 0), (60, .getfield 252, 3, 0, 9, 34, 0), (63, .iload_n 3, 1, 0, 0, 0, 0), (64, .iadd, 1, 0, 0, 0, 0), (65, .sipush 20000, 3, 0, 0, 0, 0), (68, .if_icmp .gt 7, 3, 0, 75, 0, 0), (71, .iconst 1, 1, 0, 0, 0, 0), (72, .goto 4, 3, 0, 76, 0, 0), (75, .iconst 0, 1, 0, 0, 0, 0), (76, .invokevirtual 159, 3, 17, 124, 1, 912), (79, .ifCond .ne 4, 3, 0, 83, 0, 0), (82, .return_, 1, 1, 0, 0, 0), (83, .aload_n 0, 1, 0, 0, 0, 0), (84, .getfield 87, 3, 0, 9, 35, 1), (87, .aload_n 0, 1, 0, 0, 0, 0), (88, .getfield 229, 3, 0, 9, 32, 0), (91, .iload_n 1, 1, 0, 0, 0, 0), (92, .iastore, 1, 0, 0, 0, 0), (93, .aload_n 0, 1, 0, 0, 0, 0), (94, .getfield 96, 3, 0, 9, 38, 1), (97, .aload_n 0, 1, 0, 0, 0, 0), (98, .getfield 229, 3, 0, 9, 32, 0), (101, .iload_n 2, 1, 0, 0, 0, 0), (102, .iastore, 1, 0, 0, 0, 0), (103, .aload_n 0, 1, 0, 0, 0, 0), (104, .dup, 1, 0, 0, 0, 0), (105, .getfield 252, 3, 0, 9, 34, 0), (108, .iload_n 3, 1, 0, 0, 0, 0), (109, .iadd, 1, 0, 0, 0, 0), (110, .putfield 252, 3, 0, 9, 34, 0), (113, .aload_n 0, 1, 0, 0, 0, 0), (114, .dup, 1, 0, 0, 0, 0), (115, .getfield 246, 3, 0, 9, 33, 0), (118, .aload_n 0, 1, 0, 0, 0, 0), (119, .getfield 93, 3, 0, 9, 37, 1), (122, .aload_n 0, 1, 0, 0, 0, 0), (123, .getfield 229, 3, 0, 9, 32, 0), (126, .iaload, 1, 0, 0, 0, 0), (127, .iadd, 1, 0, 0, 0, 0), (128, .putfield 246, 3, 0, 9, 33, 0), (131, .aload_n 0, 1, 0, 0, 0, 0), (132, .dup, 1, 0, 0, 0, 0), (133, .getfield 229, 3, 0, 9, 32, 0), (136, .iconst 1, 1, 0, 0, 0, 0), (137, .iadd, 1, 0, 0, 0, 0), (138, .putfield 229, 3, 0, 9, 32, 0), (141, .aload_n 0, 1, 0, 0, 0, 0), (142, .aload_n 0, 1, 0, 0, 0, 0), (143, .getfield 229, 3, 0, 9, 32, 0), (146, .iconst 1, 1, 0, 0, 0, 0), (147, .isub, 1, 0, 0, 0, 0), (148, .invokevirtual 255, 3, 0, 160, 1, 902), (151, .return_, 1, 1, 0, 0, 0)]
def am_m159 : am_M := (yX9_close, cX9_close, 5, none, am_r159)
def am_r160 : List am_I := [(0, .aload_n 0, 1, 0, 0, 0, 0), (1, .getfield 99, 3, 0, 9, 39, 1), (4, .iload_n 1, 1, 0, 0, 0, 0), (5, .aload_n 0, 1, 0, 0, 0, 0), (6, .getfield 174, 3, 0, 9, 17, 0), (9, .iastore, 1, 0, 0, 0, 0), (10, .aload_n 0, 1, 0, 0, 0, 0), (11, .getfield 102, 3, 0, 9, 40, 1), (14, .iload_n 1, 1, 0, 0, 0, 0), (15, .aload_n 0, 1, 0, 0, 0, 0), (16, .getfield 142, 3, 0, 9, 4, 0), (19, .iastore, 1, 0, 0, 0, 0), (20, .aload_n 0, 1, 0, 0, 0, 0), (21, .getfield 105, 3, 0, 9, 41, 1), (24, .iload_n 1, 1, 0, 0, 0, 0), (25, .aload_n 0, 1, 0, 0, 0, 0), (26, .getfield 217, 3, 0, 9, 28, 0), (29, .iastore, 1, 0, 0, 0, 0), (30, .aload_n 0, 1, 0, 0, 0, 0), (31, .getfield 108, 3, 0, 9, 42, 1), (34, .iload_n 1, 1, 0, 0, 0, 0), (35, .aload_n 0, 1, 0, 0, 0, 0), (36, .getfield 223, 3, 0, 9, 29, 0), (39, .iastore, 1, 0, 0, 0, 0), (40, .return_, 1, 1, 0, 0, 0)]
def am_m160 : am_M := (yX9_noteState, cX9_noteState, 2, none, am_r160)
def am_r161 : List am_I := [(0, .aload_n 0, 1, 0, 0, 0, 0), (1, .invokevirtual 258, 3, 0, 158, 0, 902), (4, .aload_n 0, 1, 0, 0, 0, 0), (5, .iload_n 1, 1, 0, 0, 0, 0), (6, .iconst (-1), 1, 0, 0, 0, 0), (7, .invokevirtual 261, 3, 0, 157, 2, 902), (10, .aload_n 0, 1, 0, 0, 0, 0), (11, .iload_n 2, 1, 0, 0, 0, 0), (12, .iconst (-1), 1, 0, 0, 0, 0), (13, .invokevirtual 261, 3, 0, 157, 2, 902), (16, .return_, 1, 1, 0, 0, 0)]
def am_m161 : am_M := (yX9_joined, cX9_joined, 3, none, am_r161)
def am_r162 : List am_I := [(0, .iload_n 1, 1, 0, 0, 0, 0), (1, .tableswitch 135 10 21 #[63, 75, 75, 93, 63, 63, 75, 75, 110, 117, 63, 124], 63, 0, 0, 0, 0), (64, .aload_n 0, 1, 0, 0, 0, 0), (65, .iload_n 1, 1, 0, 0, 0, 0), (66, .aload_n 0, 1, 0, 0, 0, 0), (67, .invokevirtual 265, 3, 0, 150, 0, 912), (70, .invokevirtual 268, 3, 0, 163, 2, 902), (73, .goto 71, 3, 0, 144, 0, 0), (76, .aload_n 0, 1, 0, 0, 0, 0), (77, .invokevirtual 271, 3, 0, 151, 0, 912), (80, .istore_n 2, 1, 0, 0, 0, 0), (81, .aload_n 0, 1, 0, 0, 0, 0), (82, .iload_n 1, 1, 0, 0, 0, 0), (83, .iload_n 2, 1, 0, 0, 0, 0), (84, .aload_n 0, 1, 0, 0, 0, 0), (85, .invokevirtual 271, 3, 0, 151, 0, 912), (88, .invokevirtual 274, 3, 0, 164, 3, 902), (91, .goto 53, 3, 0, 144, 0, 0), (94, .aload_n 0, 1, 0, 0, 0, 0), (95, .invokevirtual 265, 3, 0, 150, 0, 912), (98, .istore_n 3, 1, 0, 0, 0, 0), (99, .aload_n 0, 1, 0, 0, 0, 0), (100, .iload_n 3, 1, 0, 0, 0, 0), (101, .aload_n 0, 1, 0, 0, 0, 0), (102, .invokevirtual 271, 3, 0, 151, 0, 912), (105, .invokevirtual 278, 3, 0, 165, 2, 902), (108, .goto 36, 3, 0, 144, 0, 0), (111, .aload_n 0, 1, 0, 0, 0, 0), (112, .invokevirtual 281, 3, 0, 166, 0, 902), (115, .goto 29, 3, 0, 144, 0, 0), (118, .aload_n 0, 1, 0, 0, 0, 0), (119, .invokevirtual 284, 3, 0, 167, 0, 902), (122, .goto 22, 3, 0, 144, 0, 0), (125, .aload_n 0, 1, 0, 0, 0, 0), (126, .aload_n 0, 1, 0, 0, 0, 0), (127, .invokevirtual 271, 3, 0, 151, 0, 912), (130, .invokevirtual 287, 3, 0, 172, 1, 902), (133, .goto 11, 3, 0, 144, 0, 0), (136, .aload_n 0, 1, 0, 0, 0, 0), (137, .aload_n 0, 1, 0, 0, 0, 0), (138, .invokevirtual 214, 3, 0, 147, 0, 912), (141, .invokevirtual 290, 3, 0, 184, 1, 902), (144, .return_, 1, 1, 0, 0, 0)]
def am_m162 : am_M := (yX9_readStep, cX9_readStep, 4, none, am_r162)
def am_r163 : List am_I := [(0, .aload_n 0, 1, 0, 0, 0, 0), (1, .getfield 151, 3, 0, 9, 45, 0), (4, .ifCond .eq 4, 3, 0, 8, 0, 0), (7, .return_, 1, 1, 0, 0, 0), (8, .aload_n 0, 1, 0, 0, 0, 0), (9, .invokevirtual 258, 3, 0, 158, 0, 902), (12, .iload_n 1, 1, 0, 0, 0, 0), (13, .bipush 10, 2, 0, 0, 0, 0), (15, .if_icmp .ne 17, 3, 0, 32, 0, 0), (18, .aload_n 0, 1, 0, 0, 0, 0), (19, .aload_n 0, 1, 0, 0, 0, 0), (20, .iload_n 2, 1, 0, 0, 0, 0), (21, .iload_n 2, 1, 0, 0, 0, 0), (22, .invokevirtual 293, 3, 0, 144, 2, 912), (25, .iload_n 1, 1, 0, 0, 0, 0), (26, .invokevirtual 296, 3, 0, 159, 2, 902), (29, .goto 147, 3, 0, 176, 0, 0), (32, .iload_n 1, 1, 0, 0, 0, 0), (33, .bipush 14, 2, 0, 0, 0, 0), (35, .if_icmp .ne 90, 3, 0, 125, 0, 0), (38, .aload_n 0, 1, 0, 0, 0, 0), (39, .aload_n 0, 1, 0, 0, 0, 0), (40, .getfield 51, 3, 0, 9, 18, 1), (43, .iload_n 2, 1, 0, 0, 0, 0), (44, .iaload, 1, 0, 0, 0, 0), (45, .iconst 4, 1, 0, 0, 0, 0), (46, .if_icmp .ne 37, 3, 0, 83, 0, 0), (49, .aload_n 0, 1, 0, 0, 0, 0), (50, .getfield 51, 3, 0, 9, 18, 1), (53, .aload_n 0, 1, 0, 0, 0, 0), (54, .getfield 54, 3, 0, 9, 19, 1), (57, .iload_n 2, 1, 0, 0, 0, 0), (58, .iaload, 1, 0, 0, 0, 0), (59, .iaload, 1, 0, 0, 0, 0), (60, .iconst 5, 1, 0, 0, 0, 0), (61, .if_icmp .ne 22, 3, 0, 83, 0, 0), (64, .aload_n 0, 1, 0, 0, 0, 0), (65, .getfield 51, 3, 0, 9, 18, 1), (68, .aload_n 0, 1, 0, 0, 0, 0), (69, .getfield 57, 3, 0, 9, 20, 1), (72, .iload_n 2, 1, 0, 0, 0, 0), (73, .iaload, 1, 0, 0, 0, 0), (74, .iaload, 1, 0, 0, 0, 0), (75, .iconst 2, 1, 0, 0, 0, 0), (76, .if_icmp .ne 7, 3, 0, 83, 0, 0), (79, .iconst 1, 1, 0, 0, 0, 0), (80, .goto 4, 3, 0, 84, 0, 0), (83, .iconst 0, 1, 0, 0, 0, 0), (84, .invokevirtual 159, 3, 9, 124, 1, 912), (87, .ifCond .eq 89, 3, 0, 176, 0, 0), (90, .aload_n 0, 1, 0, 0, 0, 0), (91, .aload_n 0, 1, 0, 0, 0, 0), (92, .iload_n 2, 1, 0, 0, 0, 0), (93, .aload_n 0, 1, 0, 0, 0, 0), (94, .aload_n 0, 1, 0, 0, 0, 0), (95, .getfield 57, 3, 0, 9, 20, 1), (98, .aload_n 0, 1, 0, 0, 0, 0), (99, .getfield 54, 3, 0, 9, 19, 1), (102, .iload_n 2, 1, 0, 0, 0, 0), (103, .iaload, 1, 0, 0, 0, 0), (104, .iaload, 1, 0, 0, 0, 0), (105, .aload_n 0, 1, 0, 0, 0, 0), (106, .getfield 57, 3, 0, 9, 20, 1), (109, .iload_n 2, 1, 0, 0, 0, 0), (110, .iaload, 1, 0, 0, 0, 0), (111, .iconst 0, 1, 0, 0, 0, 0), (112, .invokevirtual 189, 3, 0, 139, 3, 912), (115, .invokevirtual 293, 3, 0, 144, 2, 912), (118, .iload_n 1, 1, 0, 0, 0, 0), (119, .invokevirtual 296, 3, 0, 159, 2, 902), (122, .goto 54, 3, 0, 176, 0, 0), (125, .iload_n 1, 1, 0, 0, 0, 0), (126, .bipush 15, 2, 0, 0, 0, 0), (128, .if_icmp .ne 43, 3, 0, 171, 0, 0), (131, .aload_n 0, 1, 0, 0, 0, 0), (132, .aload_n 0, 1, 0, 0, 0, 0), (133, .getfield 60, 3, 0, 9, 21, 1), (136, .iload_n 2, 1, 0, 0, 0, 0), (137, .iaload, 1, 0, 0, 0, 0), (138, .aload_n 0, 1, 0, 0, 0, 0), (139, .invokevirtual 131, 3, 0, 127, 0, 912), (142, .if_icmp .ne 7, 3, 0, 149, 0, 0), (145, .iconst 1, 1, 0, 0, 0, 0), (146, .goto 4, 3, 0, 150, 0, 0), (149, .iconst 0, 1, 0, 0, 0, 0), (150, .invokevirtual 159, 3, 0, 124, 1, 912), (153, .ifCond .ne 4, 3, 0, 157, 0, 0), (156, .return_, 1, 1, 0, 0, 0), (157, .aload_n 0, 1, 0, 0, 0, 0), (158, .iload_n 2, 1, 0, 0, 0, 0), (159, .invokevirtual 249, 3, 0, 156, 1, 902), (162, .aload_n 0, 1, 0, 0, 0, 0), (163, .iload_n 2, 1, 0, 0, 0, 0), (164, .iload_n 1, 1, 0, 0, 0, 0), (165, .invokevirtual 296, 3, 0, 159, 2, 902), (168, .goto 8, 3, 0, 176, 0, 0), (171, .aload_n 0, 1, 0, 0, 0, 0), (172, .iload_n 2, 1, 0, 0, 0, 0), (173, .invokevirtual 299, 3, 0, 171, 1, 902), (176, .return_, 1, 1, 0, 0, 0)]
def am_m163 : am_M := (yX9_stepOfTerm, cX9_stepOfTerm, 3, none, am_r163)
def am_r164 : List am_I := [(0, .aload_n 0, 1, 0, 0, 0, 0), (1, .getfield 151, 3, 0, 9, 45, 0), (4, .ifCond .eq 4, 3, 0, 8, 0, 0), (7, .return_, 1, 1, 0, 0, 0), (8, .aload_n 0, 1, 0, 0, 0, 0), (9, .getfield 87, 3, 0, 9, 35, 1), (12, .iload_n 2, 1, 0, 0, 0, 0), (13, .iaload, 1, 0, 0, 0, 0), (14, .istore 4, 2, 0, 0, 0, 0), (16, .aload_n 0, 1, 0, 0, 0, 0), (17, .getfield 87, 3, 0, 9, 35, 1), (20, .iload_n 3, 1, 0, 0, 0, 0), (21, .iaload, 1, 0, 0, 0, 0), (22, .istore 5, 2, 0, 0, 0, 0), (24, .iload_n 1, 1, 0, 0, 0, 0), (25, .bipush 17, 2, 0, 0, 0, 0), (27, .if_icmp .ne 35, 3, 0, 62, 0, 0), (30, .aload_n 0, 1, 0, 0, 0, 0), (31, .invokevirtual 258, 3, 0, 158, 0, 902), (34, .aload_n 0, 1, 0, 0, 0, 0), (35, .iload_n 2, 1, 0, 0, 0, 0), (36, .iload 5, 2, 0, 0, 0, 0), (38, .invokevirtual 261, 3, 0, 157, 2, 902), (41, .aload_n 0, 1, 0, 0, 0, 0), (42, .iload_n 3, 1, 0, 0, 0, 0), (43, .iload 4, 2, 0, 0, 0, 0), (45, .invokevirtual 261, 3, 0, 157, 2, 902), (48, .aload_n 0, 1, 0, 0, 0, 0), (49, .aload_n 0, 1, 0, 0, 0, 0), (50, .iload 4, 2, 0, 0, 0, 0), (52, .iload 5, 2, 0, 0, 0, 0), (54, .invokevirtual 293, 3, 0, 144, 2, 912), (57, .iload_n 1, 1, 0, 0, 0, 0), (58, .invokevirtual 296, 3, 0, 159, 2, 902), (61, .return_, 1, 1, 0, 0, 0), (62, .aload_n 0, 1, 0, 0, 0, 0), (63, .aload_n 0, 1, 0, 0, 0, 0), (64, .iload 4, 2, 0, 0, 0, 0), (66, .invokevirtual 302, 3, 0, 145, 1, 912), (69, .ifCond .eq 22, 3, 0, 91, 0, 0), (72, .iload_n 1, 1, 0, 0, 0, 0), (73, .bipush 16, 2, 0, 0, 0, 0), (75, .if_icmp .eq 12, 3, 0, 87, 0, 0), (78, .aload_n 0, 1, 0, 0, 0, 0), (79, .iload 5, 2, 0, 0, 0, 0), (81, .invokevirtual 302, 3, 0, 145, 1, 912), (84, .ifCond .eq 7, 3, 0, 91, 0, 0), (87, .iconst 1, 1, 0, 0, 0, 0), (88, .goto 4, 3, 0, 92, 0, 0), (91, .iconst 0, 1, 0, 0, 0, 0), (92, .invokevirtual 159, 3, 65, 124, 1, 912), (95, .ifCond .ne 4, 3, 0, 99, 0, 0), (98, .return_, 1, 1, 0, 0, 0), (99, .aload_n 0, 1, 0, 0, 0, 0), (100, .iload_n 2, 1, 0, 0, 0, 0), (101, .iload_n 3, 1, 0, 0, 0, 0), (102, .invokevirtual 306, 3, 0, 161, 2, 902), (105, .iload_n 1, 1, 0, 0, 0, 0), (106, .bipush 16, 2, 0, 0, 0, 0), (108, .if_icmp .ne 41, 3, 0, 149, 0, 0), (111, .aload_n 0, 1, 0, 0, 0, 0), (112, .aload_n 0, 1, 0, 0, 0, 0), (113, .iload 4, 2, 0, 0, 0, 0), (115, .invokevirtual 309, 3, 0, 146, 1, 912), (118, .iload 5, 2, 0, 0, 0, 0), (120, .if_icmp .ne 7, 3, 0, 127, 0, 0), (123, .iconst 1, 1, 0, 0, 0, 0), (124, .goto 4, 3, 0, 128, 0, 0), (127, .iconst 0, 1, 0, 0, 0, 0), (128, .invokevirtual 159, 3, 0, 124, 1, 912), (131, .ifCond .eq 147, 3, 0, 278, 0, 0), (134, .aload_n 0, 1, 0, 0, 0, 0), (135, .aload_n 0, 1, 0, 0, 0, 0), (136, .getfield 57, 3, 0, 9, 20, 1), (139, .iload 4, 2, 0, 0, 0, 0), (141, .iaload, 1, 0, 0, 0, 0), (142, .iload_n 1, 1, 0, 0, 0, 0), (143, .invokevirtual 296, 3, 0, 159, 2, 902), (146, .goto 132, 3, 0, 278, 0, 0), (149, .iload_n 1, 1, 0, 0, 0, 0), (150, .bipush 11, 2, 0, 0, 0, 0), (152, .if_icmp .ne 56, 3, 0, 208, 0, 0), (155, .aload_n 0, 1, 0, 0, 0, 0), (156, .aload_n 0, 1, 0, 0, 0, 0), (157, .getfield 57, 3, 0, 9, 20, 1), (160, .iload 4, 2, 0, 0, 0, 0), (162, .iaload, 1, 0, 0, 0, 0), (163, .aload_n 0, 1, 0, 0, 0, 0), (164, .iload 5, 2, 0, 0, 0, 0), (166, .invokevirtual 309, 3, 0, 146, 1, 912), (169, .if_icmp .ne 7, 3, 0, 176, 0, 0), (172, .iconst 1, 1, 0, 0, 0, 0), (173, .goto 4, 3, 0, 177, 0, 0), (176, .iconst 0, 1, 0, 0, 0, 0), (177, .invokevirtual 159, 3, 53, 124, 1, 912), (180, .ifCond .eq 98, 3, 0, 278, 0, 0), (183, .aload_n 0, 1, 0, 0, 0, 0), (184, .aload_n 0, 1, 0, 0, 0, 0), (185, .aload_n 0, 1, 0, 0, 0, 0), (186, .iload 4, 2, 0, 0, 0, 0), (188, .invokevirtual 309, 3, 0, 146, 1, 912), (191, .aload_n 0, 1, 0, 0, 0, 0), (192, .getfield 57, 3, 0, 9, 20, 1), (195, .iload 5, 2, 0, 0, 0, 0), (197, .iaload, 1, 0, 0, 0, 0), (198, .invokevirtual 293, 3, 0, 144, 2, 912), (201, .iload_n 1, 1, 0, 0, 0, 0), (202, .invokevirtual 296, 3, 0, 159, 2, 902), (205, .goto 73, 3, 0, 278, 0, 0), (208, .aload_n 0, 1, 0, 0, 0, 0), (209, .aload_n 0, 1, 0, 0, 0, 0), (210, .aload_n 0, 1, 0, 0, 0, 0), (211, .iload 4, 2, 0, 0, 0, 0), (213, .invokevirtual 309, 3, 0, 146, 1, 912), (216, .aload_n 0, 1, 0, 0, 0, 0), (217, .iload 5, 2, 0, 0, 0, 0), (219, .invokevirtual 309, 3, 0, 146, 1, 912), (222, .invokevirtual 240, 3, 0, 134, 2, 912), (225, .invokevirtual 159, 3, 0, 124, 1, 912), (228, .ifCond .eq 50, 3, 0, 278, 0, 0), (231, .aload_n 0, 1, 0, 0, 0, 0), (232, .aload_n 0, 1, 0, 0, 0, 0), (233, .iload 4, 2, 0, 0, 0, 0), (235, .invokevirtual 309, 3, 0, 146, 1, 912), (238, .aload_n 0, 1, 0, 0, 0, 0), (239, .iload 5, 2, 0, 0, 0, 0), (241, .invokevirtual 309, 3, 0, 146, 1, 912), (244, .invokevirtual 183, 3, 0, 135, 2, 912), (247, .istore 6, 2, 0, 0, 0, 0), (249, .aload_n 0, 1, 0, 0, 0, 0), (250, .aload_n 0, 1, 0, 0, 0, 0), (251, .iload 6, 2, 0, 0, 0, 0), (253, .aload_n 0, 1, 0, 0, 0, 0), (254, .aload_n 0, 1, 0, 0, 0, 0), (255, .getfield 57, 3, 0, 9, 20, 1), (258, .iload 4, 2, 0, 0, 0, 0), (260, .iaload, 1, 0, 0, 0, 0), (261, .aload_n 0, 1, 0, 0, 0, 0), (262, .getfield 57, 3, 0, 9, 20, 1), (265, .iload 5, 2, 0, 0, 0, 0), (267, .iaload, 1, 0, 0, 0, 0), (268, .invokevirtual 183, 3, 0, 135, 2, 912), (271, .invokevirtual 293, 3, 0, 144, 2, 912), (274, .iload_n 1, 1, 0, 0, 0, 0), (275, .invokevirtual 296, 3, 0, 159, 2, 902), (278, .return_, 1, 1, 0, 0, 0)]
def am_m164 : am_M := (yX9_stepOfTwo, cX9_stepOfTwo, 7, none, am_r164)
def am_r165 : List am_I := [(0, .aload_n 0, 1, 0, 0, 0, 0), (1, .getfield 151, 3, 0, 9, 45, 0), (4, .ifCond .eq 4, 3, 0, 8, 0, 0), (7, .return_, 1, 1, 0, 0, 0), (8, .aload_n 0, 1, 0, 0, 0, 0), (9, .getfield 87, 3, 0, 9, 35, 1), (12, .iload_n 2, 1, 0, 0, 0, 0), (13, .iaload, 1, 0, 0, 0, 0), (14, .istore_n 3, 1, 0, 0, 0, 0), (15, .aload_n 0, 1, 0, 0, 0, 0), (16, .aload_n 0, 1, 0, 0, 0, 0), (17, .getfield 51, 3, 0, 9, 18, 1), (20, .iload_n 1, 1, 0, 0, 0, 0), (21, .iaload, 1, 0, 0, 0, 0), (22, .iconst 2, 1, 0, 0, 0, 0), (23, .if_icmp .ne 15, 3, 0, 38, 0, 0), (26, .aload_n 0, 1, 0, 0, 0, 0), (27, .iload_n 3, 1, 0, 0, 0, 0), (28, .invokevirtual 302, 3, 0, 145, 1, 912), (31, .ifCond .eq 7, 3, 0, 38, 0, 0), (34, .iconst 1, 1, 0, 0, 0, 0), (35, .goto 4, 3, 0, 39, 0, 0), (38, .iconst 0, 1, 0, 0, 0, 0), (39, .invokevirtual 159, 3, 0, 124, 1, 912), (42, .pop, 1, 0, 0, 0, 0), (43, .iconst 0, 1, 0, 0, 0, 0), (44, .istore 4, 2, 0, 0, 0, 0), (46, .iload 4, 2, 33, 0, 0, 0), (48, .aload_n 0, 1, 0, 0, 0, 0), (49, .getfield 93, 3, 0, 9, 37, 1), (52, .iload_n 2, 1, 0, 0, 0, 0), (53, .iaload, 1, 0, 0, 0, 0), (54, .if_icmp .ge 48, 3, 0, 102, 0, 0), (57, .aload_n 0, 1, 0, 0, 0, 0), (58, .getfield 151, 3, 0, 9, 45, 0), (61, .ifCond .ne 41, 3, 0, 102, 0, 0), (64, .aload_n 0, 1, 0, 0, 0, 0), (65, .aload_n 0, 1, 0, 0, 0, 0), (66, .iload_n 1, 1, 0, 0, 0, 0), (67, .aload_n 0, 1, 0, 0, 0, 0), (68, .getfield 112, 3, 0, 9, 43, 1), (71, .aload_n 0, 1, 0, 0, 0, 0), (72, .getfield 90, 3, 0, 9, 36, 1), (75, .iload_n 2, 1, 0, 0, 0, 0), (76, .iaload, 1, 0, 0, 0, 0), (77, .iload 4, 2, 0, 0, 0, 0), (79, .iadd, 1, 0, 0, 0, 0), (80, .iaload, 1, 0, 0, 0, 0), (81, .invokevirtual 198, 3, 0, 142, 2, 912), (84, .ifCond .ne 7, 3, 0, 91, 0, 0), (87, .iconst 1, 1, 0, 0, 0, 0), (88, .goto 4, 3, 0, 92, 0, 0), (91, .iconst 0, 1, 0, 0, 0, 0), (92, .invokevirtual 159, 3, 0, 124, 1, 912), (95, .pop, 1, 0, 0, 0, 0), (96, .iinc 4 1, 3, 0, 0, 0, 0), (99, .goto (-53), 3, 0, 46, 0, 0), (102, .aload_n 0, 1, 0, 0, 0, 0), (103, .getfield 151, 3, 0, 9, 45, 0), (106, .ifCond .eq 4, 3, 0, 110, 0, 0), (109, .return_, 1, 1, 0, 0, 0), (110, .aload_n 0, 1, 0, 0, 0, 0), (111, .invokevirtual 258, 3, 0, 158, 0, 902), (114, .aload_n 0, 1, 0, 0, 0, 0), (115, .iload_n 2, 1, 0, 0, 0, 0), (116, .iconst (-1), 1, 0, 0, 0, 0), (117, .invokevirtual 261, 3, 0, 157, 2, 902), (120, .aload_n 0, 1, 0, 0, 0, 0), (121, .iload_n 1, 1, 0, 0, 0, 0), (122, .aload_n 0, 1, 0, 0, 0, 0), (123, .iload_n 3, 1, 0, 0, 0, 0), (124, .invokevirtual 309, 3, 0, 146, 1, 912), (127, .invokevirtual 312, 3, 0, 138, 2, 912), (130, .istore 4, 2, 0, 0, 0, 0), (132, .aload_n 0, 1, 0, 0, 0, 0), (133, .aload_n 0, 1, 0, 0, 0, 0), (134, .iload 4, 2, 0, 0, 0, 0), (136, .aload_n 0, 1, 0, 0, 0, 0), (137, .iload_n 1, 1, 0, 0, 0, 0), (138, .aload_n 0, 1, 0, 0, 0, 0), (139, .getfield 57, 3, 0, 9, 20, 1), (142, .iload_n 3, 1, 0, 0, 0, 0), (143, .iaload, 1, 0, 0, 0, 0), (144, .invokevirtual 312, 3, 0, 138, 2, 912), (147, .invokevirtual 293, 3, 0, 144, 2, 912), (150, .bipush 13, 2, 0, 0, 0, 0), (152, .invokevirtual 296, 3, 0, 159, 2, 902), (155, .return_, 1, 1, 0, 0, 0)]
def am_m165 : am_M := (yX9_stepAbstract, cX9_stepAbstract, 5, none, am_r165)
def am_r166 : List am_I := [(0, .aload_n 0, 1, 0, 0, 0, 0), (1, .invokevirtual 271, 3, 0, 151, 0, 912), (4, .istore_n 1, 1, 0, 0, 0, 0), (5, .aload_n 0, 1, 0, 0, 0, 0), (6, .invokevirtual 265, 3, 0, 150, 0, 912), (9, .istore_n 2, 1, 0, 0, 0, 0), (10, .aload_n 0, 1, 0, 0, 0, 0), (11, .invokevirtual 265, 3, 0, 150, 0, 912), (14, .istore_n 3, 1, 0, 0, 0, 0), (15, .aload_n 0, 1, 0, 0, 0, 0), (16, .getfield 151, 3, 0, 9, 45, 0), (19, .ifCond .ne 40, 3, 0, 59, 0, 0), (22, .aload_n 0, 1, 0, 0, 0, 0), (23, .aload_n 0, 1, 0, 0, 0, 0), (24, .getfield 51, 3, 0, 9, 18, 1), (27, .iload_n 2, 1, 0, 0, 0, 0), (28, .iaload, 1, 0, 0, 0, 0), (29, .iconst 2, 1, 0, 0, 0, 0), (30, .if_icmp .ne 22, 3, 0, 52, 0, 0), (33, .aload_n 0, 1, 0, 0, 0, 0), (34, .getfield 60, 3, 0, 9, 21, 1), (37, .iload_n 2, 1, 0, 0, 0, 0), (38, .iaload, 1, 0, 0, 0, 0), (39, .aload_n 0, 1, 0, 0, 0, 0), (40, .getfield 60, 3, 0, 9, 21, 1), (43, .iload_n 3, 1, 0, 0, 0, 0), (44, .iaload, 1, 0, 0, 0, 0), (45, .if_icmp .ne 7, 3, 0, 52, 0, 0), (48, .iconst 1, 1, 0, 0, 0, 0), (49, .goto 4, 3, 0, 53, 0, 0), (52, .iconst 0, 1, 0, 0, 0, 0), (53, .invokevirtual 159, 3, 0, 124, 1, 912), (56, .ifCond .ne 4, 3, 0, 60, 0, 0), (59, .return_, 1, 1, 0, 0, 0), (60, .aload_n 0, 1, 0, 0, 0, 0), (61, .invokevirtual 258, 3, 0, 158, 0, 902), (64, .iconst 0, 1, 0, 0, 0, 0), (65, .istore 4, 2, 0, 0, 0, 0), (67, .iload 4, 2, 33, 0, 0, 0), (69, .aload_n 0, 1, 0, 0, 0, 0), (70, .getfield 93, 3, 0, 9, 37, 1), (73, .iload_n 1, 1, 0, 0, 0, 0), (74, .iaload, 1, 0, 0, 0, 0), (75, .if_icmp .ge 33, 3, 0, 108, 0, 0), (78, .aload_n 0, 1, 0, 0, 0, 0), (79, .aload_n 0, 1, 0, 0, 0, 0), (80, .aload_n 0, 1, 0, 0, 0, 0), (81, .getfield 112, 3, 0, 9, 43, 1), (84, .aload_n 0, 1, 0, 0, 0, 0), (85, .getfield 90, 3, 0, 9, 36, 1), (88, .iload_n 1, 1, 0, 0, 0, 0), (89, .iaload, 1, 0, 0, 0, 0), (90, .iload 4, 2, 0, 0, 0, 0), (92, .iadd, 1, 0, 0, 0, 0), (93, .iaload, 1, 0, 0, 0, 0), (94, .iload_n 2, 1, 0, 0, 0, 0), (95, .iload_n 3, 1, 0, 0, 0, 0), (96, .invokevirtual 192, 3, 0, 140, 3, 912), (99, .invokevirtual 249, 3, 0, 156, 1, 902), (102, .iinc 4 1, 3, 0, 0, 0, 0), (105, .goto (-38), 3, 0, 67, 0, 0), (108, .aload_n 0, 1, 0, 0, 0, 0), (109, .aload_n 0, 1, 0, 0, 0, 0), (110, .aload_n 0, 1, 0, 0, 0, 0), (111, .getfield 87, 3, 0, 9, 35, 1), (114, .iload_n 1, 1, 0, 0, 0, 0), (115, .iaload, 1, 0, 0, 0, 0), (116, .iload_n 2, 1, 0, 0, 0, 0), (117, .iload_n 3, 1, 0, 0, 0, 0), (118, .invokevirtual 192, 3, 0, 140, 3, 912), (121, .bipush 18, 2, 0, 0, 0, 0), (123, .invokevirtual 296, 3, 0, 159, 2, 902), (126, .return_, 1, 1, 0, 0, 0)]
def am_m166 : am_M := (yX9_stepPut, cX9_stepPut, 5, none, am_r166)
def am_r167 : List am_I := [(0, .aload_n 0, 1, 0, 0, 0, 0), (1, .invokevirtual 271, 3, 0, 151, 0, 912), (4, .istore_n 1, 1, 0, 0, 0, 0), (5, .aload_n 0, 1, 0, 0, 0, 0), (6, .invokevirtual 214, 3, 0, 147, 0, 912), (9, .istore_n 2, 1, 0, 0, 0, 0), (10, .aload_n 0, 1, 0, 0, 0, 0), (11, .getfield 151, 3, 0, 9, 45, 0), (14, .ifCond .ne 25, 3, 0, 39, 0, 0), (17, .aload_n 0, 1, 0, 0, 0, 0), (18, .iload_n 2, 1, 0, 0, 0, 0), (19, .sipush 251, 3, 0, 0, 0, 0), (22, .invokestatic 220, 3, 0, 123, 2, 13), (25, .ifCond .ne 7, 3, 0, 32, 0, 0), (28, .iconst 1, 1, 0, 0, 0, 0), (29, .goto 4, 3, 0, 33, 0, 0), (32, .iconst 0, 1, 0, 0, 0, 0), (33, .invokevirtual 159, 3, 0, 124, 1, 912), (36, .ifCond .ne 4, 3, 0, 40, 0, 0), (39, .return_, 1, 1, 0, 0, 0), (40, .aload_n 0, 1, 0, 0, 0, 0), (41, .iconst 0, 1, 0, 0, 0, 0), (42, .putfield 163, 3, 0, 9, 46, 0), (45, .iconst 0, 1, 0, 0, 0, 0), (46, .istore_n 3, 1, 0, 0, 0, 0), (47, .iload_n 3, 1, 17, 0, 0, 0), (48, .iload_n 2, 1, 0, 0, 0, 0), (49, .if_icmp .ge 149, 3, 0, 198, 0, 0), (52, .aload_n 0, 1, 0, 0, 0, 0), (53, .getfield 151, 3, 0, 9, 45, 0), (56, .ifCond .ne 142, 3, 0, 198, 0, 0), (59, .aload_n 0, 1, 0, 0, 0, 0), (60, .invokevirtual 214, 3, 0, 147, 0, 912), (63, .istore 4, 2, 0, 0, 0, 0), (65, .aload_n 0, 1, 0, 0, 0, 0), (66, .invokevirtual 237, 3, 0, 148, 0, 912), (69, .istore 5, 2, 0, 0, 0, 0), (71, .aload_n 0, 1, 0, 0, 0, 0), (72, .getfield 151, 3, 0, 9, 45, 0), (75, .ifCond .ne 25, 3, 0, 100, 0, 0), (78, .aload_n 0, 1, 0, 0, 0, 0), (79, .iload 4, 2, 0, 0, 0, 0), (81, .ldc 232, 2, 0, 100000000, 0, 0), (83, .invokestatic 220, 3, 0, 123, 2, 13), (86, .ifCond .ne 7, 3, 0, 93, 0, 0), (89, .iconst 1, 1, 0, 0, 0, 0), (90, .goto 4, 3, 0, 94, 0, 0), (93, .iconst 0, 1, 0, 0, 0, 0), (94, .invokevirtual 159, 3, 0, 124, 1, 912), (97, .ifCond .ne 4, 3, 0, 101, 0, 0), (100, .return_, 1, 1, 0, 0, 0), (101, .aload_n 0, 1, 0, 0, 0, 0), (102, .iload 4, 2, 0, 0, 0, 0), (104, .invokevirtual 315, 3, 0, 168, 1, 912), (107, .istore 6, 2, 0, 0, 0, 0), (109, .iconst 0, 1, 0, 0, 0, 0), (110, .istore 7, 2, 0, 0, 0, 0), (112, .iload 7, 2, 257, 0, 0, 0), (114, .aload_n 0, 1, 0, 0, 0, 0), (115, .getfield 163, 3, 0, 9, 46, 0), (118, .if_icmp .ge 31, 3, 0, 149, 0, 0), (121, .aload_n 0, 1, 0, 0, 0, 0), (122, .aload_n 0, 1, 0, 0, 0, 0), (123, .getfield 121, 3, 0, 9, 50, 1), (126, .iload 7, 2, 0, 0, 0, 0), (128, .iaload, 1, 0, 0, 0, 0), (129, .iload 4, 2, 0, 0, 0, 0), (131, .if_icmp .eq 7, 3, 0, 138, 0, 0), (134, .iconst 1, 1, 0, 0, 0, 0), (135, .goto 4, 3, 0, 139, 0, 0), (138, .iconst 0, 1, 0, 0, 0, 0), (139, .invokevirtual 159, 3, 0, 124, 1, 912), (142, .pop, 1, 0, 0, 0, 0), (143, .iinc 7 1, 3, 0, 0, 0, 0), (146, .goto (-34), 3, 0, 112, 0, 0), (149, .aload_n 0, 1, 0, 0, 0, 0), (150, .getfield 121, 3, 0, 9, 50, 1), (153, .aload_n 0, 1, 0, 0, 0, 0), (154, .getfield 163, 3, 0, 9, 46, 0), (157, .iload 4, 2, 0, 0, 0, 0), (159, .iastore, 1, 0, 0, 0, 0), (160, .aload_n 0, 1, 0, 0, 0, 0), (161, .getfield 115, 3, 0, 9, 47, 1), (164, .aload_n 0, 1, 0, 0, 0, 0), (165, .getfield 163, 3, 0, 9, 46, 0), (168, .iload 6, 2, 0, 0, 0, 0), (170, .iastore, 1, 0, 0, 0, 0), (171, .aload_n 0, 1, 0, 0, 0, 0), (172, .getfield 118, 3, 0, 9, 48, 1), (175, .aload_n 0, 1, 0, 0, 0, 0), (176, .getfield 163, 3, 0, 9, 46, 0), (179, .iload 5, 2, 0, 0, 0, 0), (181, .iastore, 1, 0, 0, 0, 0), (182, .aload_n 0, 1, 0, 0, 0, 0), (183, .dup, 1, 0, 0, 0, 0), (184, .getfield 163, 3, 0, 9, 46, 0), (187, .iconst 1, 1, 0, 0, 0, 0), (188, .iadd, 1, 0, 0, 0, 0), (189, .putfield 163, 3, 0, 9, 46, 0), (192, .iinc 3 1, 3, 0, 0, 0, 0), (195, .goto (-148), 3, 0, 47, 0, 0), (198, .aload_n 0, 1, 0, 0, 0, 0), (199, .getfield 151, 3, 0, 9, 45, 0), (202, .ifCond .eq 4, 3, 0, 206, 0, 0), (205, .return_, 1, 1, 0, 0, 0), (206, .aload_n 0, 1, 0, 0, 0, 0), (207, .invokevirtual 258, 3, 0, 158, 0, 902), (210, .iconst 0, 1, 0, 0, 0, 0), (211, .istore_n 3, 1, 0, 0, 0, 0), (212, .iload_n 3, 1, 13, 0, 0, 0), (213, .aload_n 0, 1, 0, 0, 0, 0), (214, .getfield 93, 3, 0, 9, 37, 1), (217, .iload_n 1, 1, 0, 0, 0, 0), (218, .iaload, 1, 0, 0, 0, 0), (219, .if_icmp .ge 30, 3, 0, 249, 0, 0), (222, .aload_n 0, 1, 0, 0, 0, 0), (223, .aload_n 0, 1, 0, 0, 0, 0), (224, .aload_n 0, 1, 0, 0, 0, 0), (225, .getfield 112, 3, 0, 9, 43, 1), (228, .aload_n 0, 1, 0, 0, 0, 0), (229, .getfield 90, 3, 0, 9, 36, 1), (232, .iload_n 1, 1, 0, 0, 0, 0), (233, .iaload, 1, 0, 0, 0, 0), (234, .iload_n 3, 1, 0, 0, 0, 0), (235, .iadd, 1, 0, 0, 0, 0), (236, .iaload, 1, 0, 0, 0, 0), (237, .invokevirtual 195, 3, 0, 141, 1, 912), (240, .invokevirtual 249, 3, 0, 156, 1, 902), (243, .iinc 3 1, 3, 0, 0, 0, 0), (246, .goto (-34), 3, 0, 212, 0, 0), (249, .aload_n 0, 1, 0, 0, 0, 0), (250, .aload_n 0, 1, 0, 0, 0, 0), (251, .aload_n 0, 1, 0, 0, 0, 0), (252, .getfield 87, 3, 0, 9, 35, 1), (255, .iload_n 1, 1, 0, 0, 0, 0), (256, .iaload, 1, 0, 0, 0, 0), (257, .invokevirtual 195, 3, 0, 141, 1, 912), (260, .bipush 19, 2, 0, 0, 0, 0), (262, .invokevirtual 296, 3, 0, 159, 2, 902), (265, .return_, 1, 1, 0, 0, 0)]
def am_m167 : am_M := (yX9_stepRetype, cX9_stepRetype, 8, none, am_r167)
def am_r168 : List am_I := [(0, .iconst (-1), 1, 0, 0, 0, 0), (1, .iload_n 1, 1, 0, 0, 0, 0), (2, .isub, 1, 0, 0, 0, 0), (3, .iconst (-1), 1, 0, 0, 0, 0), (4, .iconst (-1), 1, 0, 0, 0, 0), (5, .iconst 0, 1, 0, 0, 0, 0), (6, .invokestatic 155, 3, 0, 125, 4, 13), (9, .istore_n 2, 1, 0, 0, 0, 0), (10, .aload_n 0, 1, 0, 0, 0, 0), (11, .getfield 35, 3, 0, 9, 11, 1), (14, .iload_n 2, 1, 0, 0, 0, 0), (15, .iaload, 1, 0, 0, 0, 0), (16, .istore_n 3, 1, 0, 0, 0, 0), (17, .iload_n 3, 1, 13, 0, 0, 0), (18, .iconst (-1), 1, 0, 0, 0, 0), (19, .if_icmp .eq 27, 3, 0, 46, 0, 0), (22, .aload_n 0, 1, 0, 0, 0, 0), (23, .getfield 17, 3, 0, 9, 5, 1), (26, .iload_n 3, 1, 0, 0, 0, 0), (27, .iaload, 1, 0, 0, 0, 0), (28, .iconst (-1), 1, 0, 0, 0, 0), (29, .iload_n 1, 1, 0, 0, 0, 0), (30, .isub, 1, 0, 0, 0, 0), (31, .if_icmp .ne 5, 3, 0, 36, 0, 0), (34, .iload_n 3, 1, 0, 0, 0, 0), (35, .ireturn, 1, 1, 0, 0, 0), (36, .aload_n 0, 1, 0, 0, 0, 0), (37, .getfield 32, 3, 0, 9, 10, 1), (40, .iload_n 3, 1, 0, 0, 0, 0), (41, .iaload, 1, 0, 0, 0, 0), (42, .istore_n 3, 1, 0, 0, 0, 0), (43, .goto (-26), 3, 0, 17, 0, 0), (46, .iconst (-1), 1, 0, 0, 0, 0), (47, .ireturn, 1, 1, 0, 0, 0)]
def am_m168 : am_M := (yX9_variableOf, cX9_variableOf, 4, (some .int), am_r168)
def am_r169 : List am_I := [(0, .aload_n 0, 1, 0, 0, 0, 0), (1, .getfield 17, 3, 0, 9, 5, 1), (4, .iload_n 1, 1, 0, 0, 0, 0), (5, .iaload, 1, 0, 0, 0, 0), (6, .ifCond .lt 44, 3, 0, 50, 0, 0), (9, .aload_n 0, 1, 0, 0, 0, 0), (10, .getfield 20, 3, 0, 9, 6, 1), (13, .iload_n 1, 1, 0, 0, 0, 0), (14, .iaload, 1, 0, 0, 0, 0), (15, .iconst (-1), 1, 0, 0, 0, 0), (16, .if_icmp .eq 13, 3, 0, 29, 0, 0), (19, .aload_n 0, 1, 0, 0, 0, 0), (20, .aload_n 0, 1, 0, 0, 0, 0), (21, .getfield 20, 3, 0, 9, 6, 1), (24, .iload_n 1, 1, 0, 0, 0, 0), (25, .iaload, 1, 0, 0, 0, 0), (26, .invokevirtual 318, 3, 0, 169, 1, 902), (29, .aload_n 0, 1, 0, 0, 0, 0), (30, .getfield 23, 3, 0, 9, 7, 1), (33, .iload_n 1, 1, 0, 0, 0, 0), (34, .iaload, 1, 0, 0, 0, 0), (35, .iconst (-1), 1, 0, 0, 0, 0), (36, .if_icmp .eq 13, 3, 0, 49, 0, 0), (39, .aload_n 0, 1, 0, 0, 0, 0), (40, .aload_n 0, 1, 0, 0, 0, 0), (41, .getfield 23, 3, 0, 9, 7, 1), (44, .iload_n 1, 1, 0, 0, 0, 0), (45, .iaload, 1, 0, 0, 0, 0), (46, .invokevirtual 318, 3, 0, 169, 1, 902), (49, .return_, 1, 1, 0, 0, 0), (50, .iconst 0, 1, 0, 0, 0, 0), (51, .istore_n 2, 1, 0, 0, 0, 0), (52, .iload_n 2, 1, 9, 0, 0, 0), (53, .aload_n 0, 1, 0, 0, 0, 0), (54, .getfield 321, 3, 0, 9, 51, 0), (57, .if_icmp .ge 20, 3, 0, 77, 0, 0), (60, .aload_n 0, 1, 0, 0, 0, 0), (61, .getfield 124, 3, 0, 9, 52, 1), (64, .iload_n 2, 1, 0, 0, 0, 0), (65, .iaload, 1, 0, 0, 0, 0), (66, .iload_n 1, 1, 0, 0, 0, 0), (67, .if_icmp .ne 4, 3, 0, 71, 0, 0), (70, .return_, 1, 1, 0, 0, 0), (71, .iinc 2 1, 3, 0, 0, 0, 0), (74, .goto (-22), 3, 0, 52, 0, 0), (77, .aload_n 0, 1, 0, 0, 0, 0), (78, .getfield 321, 3, 0, 9, 51, 0), (81, .sipush 250, 3, 0, 0, 0, 0), (84, .if_icmp .ne 4, 3, 0, 88, 0, 0), (87, .return_, 1, 1, 0, 0, 0), (88, .aload_n 0, 1, 0, 0, 0, 0), (89, .getfield 321, 3, 0, 9, 51, 0), (92, .istore_n 2, 1, 0, 0, 0, 0), (93, .iload_n 2, 1, 9, 0, 0, 0), (94, .ifCond .le 45, 3, 0, 139, 0, 0), (97, .aload_n 0, 1, 0, 0, 0, 0), (98, .getfield 17, 3, 0, 9, 5, 1), (101, .aload_n 0, 1, 0, 0, 0, 0), (102, .getfield 124, 3, 0, 9, 52, 1), (105, .iload_n 2, 1, 0, 0, 0, 0), (106, .iconst 1, 1, 0, 0, 0, 0), (107, .isub, 1, 0, 0, 0, 0), (108, .iaload, 1, 0, 0, 0, 0), (109, .iaload, 1, 0, 0, 0, 0), (110, .aload_n 0, 1, 0, 0, 0, 0), (111, .getfield 17, 3, 0, 9, 5, 1), (114, .iload_n 1, 1, 0, 0, 0, 0), (115, .iaload, 1, 0, 0, 0, 0), (116, .if_icmp .ge 23, 3, 0, 139, 0, 0), (119, .aload_n 0, 1, 0, 0, 0, 0), (120, .getfield 124, 3, 0, 9, 52, 1), (123, .iload_n 2, 1, 0, 0, 0, 0), (124, .aload_n 0, 1, 0, 0, 0, 0), (125, .getfield 124, 3, 0, 9, 52, 1), (128, .iload_n 2, 1, 0, 0, 0, 0), (129, .iconst 1, 1, 0, 0, 0, 0), (130, .isub, 1, 0, 0, 0, 0), (131, .iaload, 1, 0, 0, 0, 0), (132, .iastore, 1, 0, 0, 0, 0), (133, .iinc 2 (-1), 3, 0, 0, 0, 0), (136, .goto (-43), 3, 0, 93, 0, 0), (139, .aload_n 0, 1, 0, 0, 0, 0), (140, .getfield 124, 3, 0, 9, 52, 1), (143, .iload_n 2, 1, 0, 0, 0, 0), (144, .iload_n 1, 1, 0, 0, 0, 0), (145, .iastore, 1, 0, 0, 0, 0), (146, .aload_n 0, 1, 0, 0, 0, 0), (147, .dup, 1, 0, 0, 0, 0), (148, .getfield 321, 3, 0, 9, 51, 0), (151, .iconst 1, 1, 0, 0, 0, 0), (152, .iadd, 1, 0, 0, 0, 0), (153, .putfield 321, 3, 0, 9, 51, 0), (156, .return_, 1, 1, 0, 0, 0)]
def am_m169 : am_M := (yX9_noteType, cX9_noteType, 3, none, am_r169)
def am_r170 : List am_I := [(0, .aload_n 0, 1, 0, 0, 0, 0), (1, .getfield 51, 3, 0, 9, 18, 1), (4, .iload_n 1, 1, 0, 0, 0, 0), (5, .iaload, 1, 0, 0, 0, 0), (6, .iconst 4, 1, 0, 0, 0, 0), (7, .if_icmp .ne 37, 3, 0, 44, 0, 0), (10, .aload_n 0, 1, 0, 0, 0, 0), (11, .aload_n 0, 1, 0, 0, 0, 0), (12, .getfield 54, 3, 0, 9, 19, 1), (15, .iload_n 1, 1, 0, 0, 0, 0), (16, .iaload, 1, 0, 0, 0, 0), (17, .invokevirtual 324, 3, 0, 170, 1, 912), (20, .istore_n 2, 1, 0, 0, 0, 0), (21, .aload_n 0, 1, 0, 0, 0, 0), (22, .aload_n 0, 1, 0, 0, 0, 0), (23, .getfield 57, 3, 0, 9, 20, 1), (26, .iload_n 1, 1, 0, 0, 0, 0), (27, .iaload, 1, 0, 0, 0, 0), (28, .invokevirtual 324, 3, 0, 170, 1, 912), (31, .ifCond .eq 11, 3, 0, 42, 0, 0), (34, .iload_n 2, 1, 0, 0, 0, 0), (35, .ifCond .eq 7, 3, 0, 42, 0, 0), (38, .iconst 1, 1, 0, 0, 0, 0), (39, .goto 4, 3, 0, 43, 0, 0), (42, .iconst 0, 1, 0, 0, 0, 0), (43, .ireturn, 1, 1, 1, 0, 0), (44, .aload_n 0, 1, 0, 0, 0, 0), (45, .getfield 51, 3, 0, 9, 18, 1), (48, .iload_n 1, 1, 0, 0, 0, 0), (49, .iaload, 1, 0, 0, 0, 0), (50, .iconst 5, 1, 0, 0, 0, 0), (51, .if_icmp .ne 24, 3, 0, 75, 0, 0), (54, .aload_n 0, 1, 0, 0, 0, 0), (55, .aload_n 0, 1, 0, 0, 0, 0), (56, .getfield 54, 3, 0, 9, 19, 1), (59, .iload_n 1, 1, 0, 0, 0, 0), (60, .iaload, 1, 0, 0, 0, 0), (61, .invokevirtual 318, 3, 0, 169, 1, 902), (64, .aload_n 0, 1, 0, 0, 0, 0), (65, .aload_n 0, 1, 0, 0, 0, 0), (66, .getfield 57, 3, 0, 9, 20, 1), (69, .iload_n 1, 1, 0, 0, 0, 0), (70, .iaload, 1, 0, 0, 0, 0), (71, .invokevirtual 324, 3, 0, 170, 1, 912), (74, .ireturn, 1, 1, 1, 0, 0), (75, .aload_n 0, 1, 0, 0, 0, 0), (76, .aload_n 0, 1, 0, 0, 0, 0), (77, .getfield 60, 3, 0, 9, 21, 1), (80, .iload_n 1, 1, 0, 0, 0, 0), (81, .iaload, 1, 0, 0, 0, 0), (82, .invokevirtual 318, 3, 0, 169, 1, 902), (85, .aload_n 0, 1, 0, 0, 0, 0), (86, .getfield 51, 3, 0, 9, 18, 1), (89, .iload_n 1, 1, 0, 0, 0, 0), (90, .iaload, 1, 0, 0, 0, 0), (91, .iconst 2, 1, 0, 0, 0, 0), (92, .if_icmp .eq 7, 3, 0, 99, 0, 0), (95, .iconst 1, 1, 0, 0, 0, 0), (96, .goto 4, 3, 0, 100, 0, 0), (99, .iconst 0, 1, 0, 0, 0, 0), (100, .ireturn, 1, 1, 1, 0, 0)]
def am_m170 : am_M := (yX9_noteAll, cX9_noteAll, 3, (some .boolean), am_r170)
def am_r171 : List am_I := [(0, .aload_n 0, 1, 0, 0, 0, 0), (1, .iconst 0, 1, 0, 0, 0, 0), (2, .putfield 321, 3, 0, 9, 51, 0), (5, .aload_n 0, 1, 0, 0, 0, 0), (6, .aload_n 0, 1, 0, 0, 0, 0), (7, .iload_n 1, 1, 0, 0, 0, 0), (8, .invokevirtual 324, 3, 0, 170, 1, 912), (11, .ifCond .eq 17, 3, 0, 28, 0, 0), (14, .aload_n 0, 1, 0, 0, 0, 0), (15, .getfield 139, 3, 0, 9, 15, 0), (18, .sipush 200, 3, 0, 0, 0, 0), (21, .if_icmp .ge 7, 3, 0, 28, 0, 0), (24, .iconst 1, 1, 0, 0, 0, 0), (25, .goto 4, 3, 0, 29, 0, 0), (28, .iconst 0, 1, 0, 0, 0, 0), (29, .invokevirtual 159, 3, 5, 124, 1, 912), (32, .ifCond .ne 4, 3, 0, 36, 0, 0), (35, .return_, 1, 1, 0, 0, 0), (36, .aload_n 0, 1, 0, 0, 0, 0), (37, .getfield 321, 3, 0, 9, 51, 0), (40, .istore_n 2, 1, 0, 0, 0, 0), (41, .aload_n 0, 1, 0, 0, 0, 0), (42, .iconst 0, 1, 0, 0, 0, 0), (43, .putfield 321, 3, 0, 9, 51, 0), (46, .aload_n 0, 1, 0, 0, 0, 0), (47, .aload_n 0, 1, 0, 0, 0, 0), (48, .getfield 60, 3, 0, 9, 21, 1), (51, .iload_n 1, 1, 0, 0, 0, 0), (52, .iaload, 1, 0, 0, 0, 0), (53, .invokevirtual 318, 3, 0, 169, 1, 902), (56, .aload_n 0, 1, 0, 0, 0, 0), (57, .iload_n 2, 1, 0, 0, 0, 0), (58, .aload_n 0, 1, 0, 0, 0, 0), (59, .getfield 321, 3, 0, 9, 51, 0), (62, .if_icmp .ne 7, 3, 0, 69, 0, 0), (65, .iconst 1, 1, 0, 0, 0, 0), (66, .goto 4, 3, 0, 70, 0, 0), (69, .iconst 0, 1, 0, 0, 0, 0), (70, .invokevirtual 159, 3, 0, 124, 1, 912), (73, .ifCond .ne 4, 3, 0, 77, 0, 0), (76, .return_, 1, 1, 0, 0, 0), (77, .aload_n 0, 1, 0, 0, 0, 0), (78, .aload_n 0, 1, 0, 0, 0, 0), (79, .aload_n 0, 1, 0, 0, 0, 0), (80, .aload_n 0, 1, 0, 0, 0, 0), (81, .getfield 139, 3, 0, 9, 15, 0), (84, .aload_n 0, 1, 0, 0, 0, 0), (85, .getfield 60, 3, 0, 9, 21, 1), (88, .iload_n 1, 1, 0, 0, 0, 0), (89, .iaload, 1, 0, 0, 0, 0), (90, .invokevirtual 205, 3, 0, 133, 2, 912), (93, .iload_n 1, 1, 0, 0, 0, 0), (94, .invokevirtual 293, 3, 0, 144, 2, 912), (97, .bipush 20, 2, 0, 0, 0, 0), (99, .invokevirtual 296, 3, 0, 159, 2, 902), (102, .aload_n 0, 1, 0, 0, 0, 0), (103, .getfield 151, 3, 0, 9, 45, 0), (106, .ifCond .eq 4, 3, 0, 110, 0, 0), (109, .return_, 1, 1, 0, 0, 0), (110, .aload_n 0, 1, 0, 0, 0, 0), (111, .getfield 47, 3, 0, 9, 16, 1), (114, .aload_n 0, 1, 0, 0, 0, 0), (115, .getfield 139, 3, 0, 9, 15, 0), (118, .aload_n 0, 1, 0, 0, 0, 0), (119, .getfield 60, 3, 0, 9, 21, 1), (122, .iload_n 1, 1, 0, 0, 0, 0), (123, .iaload, 1, 0, 0, 0, 0), (124, .iastore, 1, 0, 0, 0, 0), (125, .aload_n 0, 1, 0, 0, 0, 0), (126, .dup, 1, 0, 0, 0, 0), (127, .getfield 139, 3, 0, 9, 15, 0), (130, .iconst 1, 1, 0, 0, 0, 0), (131, .iadd, 1, 0, 0, 0, 0), (132, .putfield 139, 3, 0, 9, 15, 0), (135, .return_, 1, 1, 0, 0, 0)]
def am_m171 : am_M := (yX9_define, cX9_define, 3, none, am_r171)
def am_r172 : List am_I := [(0, .aload_n 0, 1, 0, 0, 0, 0), (1, .getfield 151, 3, 0, 9, 45, 0), (4, .ifCond .eq 4, 3, 0, 8, 0, 0), (7, .return_, 1, 1, 0, 0, 0), (8, .aload_n 0, 1, 0, 0, 0, 0), (9, .getfield 87, 3, 0, 9, 35, 1), (12, .iload_n 1, 1, 0, 0, 0, 0), (13, .iaload, 1, 0, 0, 0, 0), (14, .istore_n 2, 1, 0, 0, 0, 0), (15, .aload_n 0, 1, 0, 0, 0, 0), (16, .aload_n 0, 1, 0, 0, 0, 0), (17, .getfield 93, 3, 0, 9, 37, 1), (20, .iload_n 1, 1, 0, 0, 0, 0), (21, .iaload, 1, 0, 0, 0, 0), (22, .ifCond .ne 17, 3, 0, 39, 0, 0), (25, .aload_n 0, 1, 0, 0, 0, 0), (26, .getfield 51, 3, 0, 9, 18, 1), (29, .iload_n 2, 1, 0, 0, 0, 0), (30, .iaload, 1, 0, 0, 0, 0), (31, .iconst 4, 1, 0, 0, 0, 0), (32, .if_icmp .ne 7, 3, 0, 39, 0, 0), (35, .iconst 1, 1, 0, 0, 0, 0), (36, .goto 4, 3, 0, 40, 0, 0), (39, .iconst 0, 1, 0, 0, 0, 0), (40, .invokevirtual 159, 3, 7, 124, 1, 912), (43, .ifCond .ne 4, 3, 0, 47, 0, 0), (46, .return_, 1, 1, 0, 0, 0), (47, .aload_n 0, 1, 0, 0, 0, 0), (48, .getfield 54, 3, 0, 9, 19, 1), (51, .iload_n 2, 1, 0, 0, 0, 0), (52, .iaload, 1, 0, 0, 0, 0), (53, .istore_n 3, 1, 0, 0, 0, 0), (54, .aload_n 0, 1, 0, 0, 0, 0), (55, .iconst 0, 1, 0, 0, 0, 0), (56, .putfield 321, 3, 0, 9, 51, 0), (59, .aload_n 0, 1, 0, 0, 0, 0), (60, .aload_n 0, 1, 0, 0, 0, 0), (61, .iload_n 3, 1, 0, 0, 0, 0), (62, .invokevirtual 324, 3, 0, 170, 1, 912), (65, .ifCond .eq 44, 3, 0, 109, 0, 0), (68, .aload_n 0, 1, 0, 0, 0, 0), (69, .getfield 321, 3, 0, 9, 51, 0), (72, .iconst 3, 1, 0, 0, 0, 0), (73, .if_icmp .ge 36, 3, 0, 109, 0, 0), (76, .aload_n 0, 1, 0, 0, 0, 0), (77, .getfield 139, 3, 0, 9, 15, 0), (80, .sipush 198, 3, 0, 0, 0, 0), (83, .if_icmp .gt 26, 3, 0, 109, 0, 0), (86, .aload_n 0, 1, 0, 0, 0, 0), (87, .getfield 41, 3, 0, 9, 13, 0), (90, .bipush 40, 2, 0, 0, 0, 0), (92, .if_icmp .ge 17, 3, 0, 109, 0, 0), (95, .aload_n 0, 1, 0, 0, 0, 0), (96, .getfield 229, 3, 0, 9, 32, 0), (99, .sipush 998, 3, 0, 0, 0, 0), (102, .if_icmp .gt 7, 3, 0, 109, 0, 0), (105, .iconst 1, 1, 0, 0, 0, 0), (106, .goto 4, 3, 0, 110, 0, 0), (109, .iconst 0, 1, 0, 0, 0, 0), (110, .invokevirtual 159, 3, 15, 124, 1, 912), (113, .ifCond .ne 4, 3, 0, 117, 0, 0), (116, .return_, 1, 1, 0, 0, 0), (117, .aload_n 0, 1, 0, 0, 0, 0), (118, .getfield 60, 3, 0, 9, 21, 1), (121, .aload_n 0, 1, 0, 0, 0, 0), (122, .getfield 57, 3, 0, 9, 20, 1), (125, .iload_n 2, 1, 0, 0, 0, 0), (126, .iaload, 1, 0, 0, 0, 0), (127, .iaload, 1, 0, 0, 0, 0), (128, .istore 4, 2, 0, 0, 0, 0), (130, .aload_n 0, 1, 0, 0, 0, 0), (131, .getfield 44, 3, 0, 9, 14, 1), (134, .aload_n 0, 1, 0, 0, 0, 0), (135, .getfield 41, 3, 0, 9, 13, 0), (138, .aload_n 0, 1, 0, 0, 0, 0), (139, .getfield 321, 3, 0, 9, 51, 0), (142, .iastore, 1, 0, 0, 0, 0), (143, .aload_n 0, 1, 0, 0, 0, 0), (144, .aload_n 0, 1, 0, 0, 0, 0), (145, .getfield 41, 3, 0, 9, 13, 0), (148, .aload_n 0, 1, 0, 0, 0, 0), (149, .getfield 321, 3, 0, 9, 51, 0), (152, .ifCond .le 12, 3, 0, 164, 0, 0), (155, .aload_n 0, 1, 0, 0, 0, 0), (156, .getfield 124, 3, 0, 9, 52, 1), (159, .iconst 0, 1, 0, 0, 0, 0), (160, .iaload, 1, 0, 0, 0, 0), (161, .goto 4, 3, 0, 165, 0, 0), (164, .iconst (-1), 1, 0, 0, 0, 0), (165, .aload_n 0, 1, 0, 0, 0, 0), (166, .getfield 321, 3, 0, 9, 51, 0), (169, .iconst 1, 1, 0, 0, 0, 0), (170, .if_icmp .le 12, 3, 0, 182, 0, 0), (173, .aload_n 0, 1, 0, 0, 0, 0), (174, .getfield 124, 3, 0, 9, 52, 1), (177, .iconst 1, 1, 0, 0, 0, 0), (178, .iaload, 1, 0, 0, 0, 0), (179, .goto 4, 3, 0, 183, 0, 0), (182, .iconst (-1), 1, 0, 0, 0, 0), (183, .invokevirtual 127, 3, 27, 126, 3, 912), (186, .istore 5, 2, 0, 0, 0, 0), (188, .aload_n 0, 1, 0, 0, 0, 0), (189, .getfield 151, 3, 0, 9, 45, 0), (192, .ifCond .eq 7, 3, 0, 199, 0, 0), (195, .iconst 0, 1, 0, 0, 0, 0), (196, .goto 11, 3, 0, 207, 0, 0), (199, .aload_n 0, 1, 0, 0, 0, 0), (200, .iload 4, 2, 0, 0, 0, 0), (202, .iload 5, 2, 0, 0, 0, 0), (204, .invokevirtual 135, 3, 0, 128, 2, 912), (207, .istore 6, 2, 0, 0, 0, 0), (209, .aload_n 0, 1, 0, 0, 0, 0), (210, .getfield 151, 3, 0, 9, 45, 0), (213, .ifCond .eq 7, 3, 0, 220, 0, 0), (216, .iconst 0, 1, 0, 0, 0, 0), (217, .goto 11, 3, 0, 228, 0, 0), (220, .aload_n 0, 1, 0, 0, 0, 0), (221, .iload 5, 2, 0, 0, 0, 0), (223, .iload 4, 2, 0, 0, 0, 0), (225, .invokevirtual 135, 3, 0, 128, 2, 912), (228, .istore 7, 2, 123, 0, 0, 0), (230, .aload_n 0, 1, 0, 0, 0, 0), (231, .iconst 0, 1, 0, 0, 0, 0), (232, .iload 5, 2, 0, 0, 0, 0), (234, .invokevirtual 327, 3, 0, 132, 2, 912), (237, .istore 8, 2, 0, 0, 0, 0), (239, .aload_n 0, 1, 0, 0, 0, 0), (240, .iconst 0, 1, 0, 0, 0, 0), (241, .iload 4, 2, 0, 0, 0, 0), (243, .invokevirtual 327, 3, 0, 132, 2, 912), (246, .istore 9, 2, 0, 0, 0, 0), (248, .aload_n 0, 1, 0, 0, 0, 0), (249, .aload_n 0, 1, 0, 0, 0, 0), (250, .getfield 139, 3, 0, 9, 15, 0), (253, .iload 6, 2, 0, 0, 0, 0), (255, .invokevirtual 205, 3, 0, 133, 2, 912), (258, .istore 10, 2, 0, 0, 0, 0), (260, .aload_n 0, 1, 0, 0, 0, 0), (261, .aload_n 0, 1, 0, 0, 0, 0), (262, .getfield 139, 3, 0, 9, 15, 0), (265, .iconst 1, 1, 0, 0, 0, 0), (266, .iadd, 1, 0, 0, 0, 0), (267, .iload 7, 2, 0, 0, 0, 0), (269, .invokevirtual 205, 3, 0, 133, 2, 912), (272, .istore 11, 2, 0, 0, 0, 0), (274, .aload_n 0, 1, 0, 0, 0, 0), (275, .aload_n 0, 1, 0, 0, 0, 0), (276, .iload 10, 2, 0, 0, 0, 0), (278, .aload_n 0, 1, 0, 0, 0, 0), (279, .iload 11, 2, 0, 0, 0, 0), (281, .iload 8, 2, 0, 0, 0, 0), (283, .invokevirtual 183, 3, 0, 135, 2, 912), (286, .invokevirtual 183, 3, 0, 135, 2, 912), (289, .iload 8, 2, 0, 0, 0, 0), (291, .invokevirtual 293, 3, 0, 144, 2, 912), (294, .istore 12, 2, 0, 0, 0, 0), (296, .aload_n 0, 1, 0, 0, 0, 0), (297, .aload_n 0, 1, 0, 0, 0, 0), (298, .iload 11, 2, 0, 0, 0, 0), (300, .aload_n 0, 1, 0, 0, 0, 0), (301, .iload 10, 2, 0, 0, 0, 0), (303, .iload 9, 2, 0, 0, 0, 0), (305, .invokevirtual 183, 3, 0, 135, 2, 912), (308, .invokevirtual 183, 3, 0, 135, 2, 912), (311, .iload 9, 2, 0, 0, 0, 0), (313, .invokevirtual 293, 3, 0, 144, 2, 912), (316, .istore 13, 2, 0, 0, 0, 0), (318, .aload_n 0, 1, 0, 0, 0, 0), (319, .aload_n 0, 1, 0, 0, 0, 0), (320, .iload_n 3, 1, 0, 0, 0, 0), (321, .iload 9, 2, 0, 0, 0, 0), (323, .invokevirtual 183, 3, 0, 135, 2, 912), (326, .iload 13, 2, 0, 0, 0, 0), (328, .invokevirtual 293, 3, 0, 144, 2, 912), (331, .istore 14, 2, 0, 0, 0, 0), (333, .aload_n 0, 1, 0, 0, 0, 0), (334, .getfield 151, 3, 0, 9, 45, 0), (337, .ifCond .ne 41, 3, 0, 378, 0, 0), (340, .aload_n 0, 1, 0, 0, 0, 0), (341, .aload_n 0, 1, 0, 0, 0, 0), (342, .getfield 252, 3, 0, 9, 34, 0), (345, .aload_n 0, 1, 0, 0, 0, 0), (346, .getfield 63, 3, 0, 9, 22, 1), (349, .iload 12, 2, 0, 0, 0, 0), (351, .iaload, 1, 0, 0, 0, 0), (352, .iadd, 1, 0, 0, 0, 0), (353, .aload_n 0, 1, 0, 0, 0, 0), (354, .getfield 63, 3, 0, 9, 22, 1), (357, .iload 14, 2, 0, 0, 0, 0), (359, .iaload, 1, 0, 0, 0, 0), (360, .iadd, 1, 0, 0, 0, 0), (361, .sipush 20000, 3, 0, 0, 0, 0), (364, .if_icmp .gt 7, 3, 0, 371, 0, 0), (367, .iconst 1, 1, 0, 0, 0, 0), (368, .goto 4, 3, 0, 372, 0, 0), (371, .iconst 0, 1, 0, 0, 0, 0), (372, .invokevirtual 159, 3, 20675, 124, 1, 912), (375, .ifCond .ne 4, 3, 0, 379, 0, 0), (378, .return_, 1, 1, 0, 0, 0), (379, .aload_n 0, 1, 0, 0, 0, 0), (380, .invokevirtual 258, 3, 0, 158, 0, 902), (383, .aload_n 0, 1, 0, 0, 0, 0), (384, .iload 12, 2, 0, 0, 0, 0), (386, .bipush 21, 2, 0, 0, 0, 0), (388, .invokevirtual 296, 3, 0, 159, 2, 902), (391, .aload_n 0, 1, 0, 0, 0, 0), (392, .invokevirtual 258, 3, 0, 158, 0, 902), (395, .aload_n 0, 1, 0, 0, 0, 0), (396, .iload 14, 2, 0, 0, 0, 0), (398, .bipush 21, 2, 0, 0, 0, 0), (400, .invokevirtual 296, 3, 0, 159, 2, 902), (403, .aload_n 0, 1, 0, 0, 0, 0), (404, .aload_n 0, 1, 0, 0, 0, 0), (405, .getfield 229, 3, 0, 9, 32, 0), (408, .iconst 2, 1, 0, 0, 0, 0), (409, .isub, 1, 0, 0, 0, 0), (410, .invokevirtual 255, 3, 0, 160, 1, 902), (413, .aload_n 0, 1, 0, 0, 0, 0), (414, .getfield 47, 3, 0, 9, 16, 1), (417, .aload_n 0, 1, 0, 0, 0, 0), (418, .getfield 139, 3, 0, 9, 15, 0), (421, .iload 6, 2, 0, 0, 0, 0), (423, .iastore, 1, 0, 0, 0, 0), (424, .aload_n 0, 1, 0, 0, 0, 0), (425, .getfield 47, 3, 0, 9, 16, 1), (428, .aload_n 0, 1, 0, 0, 0, 0), (429, .getfield 139, 3, 0, 9, 15, 0), (432, .iconst 1, 1, 0, 0, 0, 0), (433, .iadd, 1, 0, 0, 0, 0), (434, .iload 7, 2, 0, 0, 0, 0), (436, .iastore, 1, 0, 0, 0, 0), (437, .aload_n 0, 1, 0, 0, 0, 0), (438, .dup, 1, 0, 0, 0, 0), (439, .getfield 139, 3, 0, 9, 15, 0), (442, .iconst 2, 1, 0, 0, 0, 0), (443, .iadd, 1, 0, 0, 0, 0), (444, .putfield 139, 3, 0, 9, 15, 0), (447, .aload_n 0, 1, 0, 0, 0, 0), (448, .dup, 1, 0, 0, 0, 0), (449, .getfield 41, 3, 0, 9, 13, 0), (452, .iconst 1, 1, 0, 0, 0, 0), (453, .iadd, 1, 0, 0, 0, 0), (454, .putfield 41, 3, 0, 9, 13, 0), (457, .return_, 1, 1, 0, 0, 0)]
def am_m172 : am_M := (yX9_stepType, cX9_stepType, 15, none, am_r172)
def am_r173 : List am_I := [(0, .aload_n 0, 1, 0, 0, 0, 0), (1, .ldc 232, 2, 0, 100000000, 0, 0), (3, .iload_n 1, 1, 0, 0, 0, 0), (4, .iadd, 1, 0, 0, 0, 0), (5, .iload_n 2, 1, 0, 0, 0, 0), (6, .invokevirtual 327, 3, 0, 132, 2, 912), (9, .ireturn, 1, 1, 0, 0, 0)]
def am_m173 : am_M := (yX9_named, cX9_named, 3, (some .int), am_r173)
def am_r174 : List am_I := [(0, .aload_n 0, 1, 0, 0, 0, 0), (1, .iconst 0, 1, 0, 0, 0, 0), (2, .aload_n 0, 1, 0, 0, 0, 0), (3, .invokevirtual 131, 3, 0, 127, 0, 912), (6, .invokevirtual 330, 3, 0, 173, 2, 912), (9, .istore_n 1, 1, 0, 0, 0, 0), (10, .aload_n 0, 1, 0, 0, 0, 0), (11, .getfield 151, 3, 0, 9, 45, 0), (14, .ifCond .eq 7, 3, 0, 21, 0, 0), (17, .iconst 0, 1, 0, 0, 0, 0), (18, .goto 9, 3, 0, 27, 0, 0), (21, .aload_n 0, 1, 0, 0, 0, 0), (22, .iload_n 1, 1, 0, 0, 0, 0), (23, .iload_n 1, 1, 0, 0, 0, 0), (24, .invokevirtual 312, 3, 0, 138, 2, 912), (27, .istore_n 2, 1, 0, 0, 0, 0), (28, .aload_n 0, 1, 0, 0, 0, 0), (29, .iload_n 2, 1, 0, 0, 0, 0), (30, .iload_n 2, 1, 0, 0, 0, 0), (31, .invokevirtual 293, 3, 0, 144, 2, 912), (34, .ireturn, 1, 1, 0, 0, 0)]
def am_m174 : am_M := (yX9_truth, cX9_truth, 3, (some .int), am_r174)
def am_r175 : List am_I := [(0, .aload_n 0, 1, 0, 0, 0, 0), (1, .invokevirtual 333, 3, 0, 174, 0, 912), (4, .istore_n 3, 1, 0, 0, 0, 0), (5, .aload_n 0, 1, 0, 0, 0, 0), (6, .getfield 151, 3, 0, 9, 45, 0), (9, .ifCond .eq 5, 3, 0, 14, 0, 0), (12, .iconst 0, 1, 0, 0, 0, 0), (13, .ireturn, 1, 1, 0, 0, 0), (14, .aload_n 0, 1, 0, 0, 0, 0), (15, .invokevirtual 131, 3, 0, 127, 0, 912), (18, .istore 4, 2, 0, 0, 0, 0), (20, .aload_n 0, 1, 0, 0, 0, 0), (21, .iload 4, 2, 0, 0, 0, 0), (23, .iload 4, 2, 0, 0, 0, 0), (25, .invokevirtual 135, 3, 0, 128, 2, 912), (28, .istore 5, 2, 0, 0, 0, 0), (30, .aload_n 0, 1, 0, 0, 0, 0), (31, .iconst 1, 1, 0, 0, 0, 0), (32, .aload_n 0, 1, 0, 0, 0, 0), (33, .getfield 151, 3, 0, 9, 45, 0), (36, .ifCond .eq 7, 3, 0, 43, 0, 0), (39, .iconst 0, 1, 0, 0, 0, 0), (40, .goto 11, 3, 0, 51, 0, 0), (43, .aload_n 0, 1, 0, 0, 0, 0), (44, .iload 4, 2, 0, 0, 0, 0), (46, .iload 5, 2, 0, 0, 0, 0), (48, .invokevirtual 135, 3, 0, 128, 2, 912), (51, .invokevirtual 330, 3, 0, 173, 2, 912), (54, .istore 6, 2, 0, 0, 0, 0), (56, .aload_n 0, 1, 0, 0, 0, 0), (57, .getfield 151, 3, 0, 9, 45, 0), (60, .ifCond .eq 5, 3, 0, 65, 0, 0), (63, .iconst 0, 1, 0, 0, 0, 0), (64, .ireturn, 1, 1, 0, 0, 0), (65, .aload_n 0, 1, 0, 0, 0, 0), (66, .iload 6, 2, 0, 0, 0, 0), (68, .aload_n 0, 1, 0, 0, 0, 0), (69, .aload_n 0, 1, 0, 0, 0, 0), (70, .iload 6, 2, 0, 0, 0, 0), (72, .iload_n 1, 1, 0, 0, 0, 0), (73, .invokevirtual 183, 3, 0, 135, 2, 912), (76, .iload_n 2, 1, 0, 0, 0, 0), (77, .invokevirtual 183, 3, 0, 135, 2, 912), (80, .invokevirtual 312, 3, 0, 138, 2, 912), (83, .istore 7, 2, 0, 0, 0, 0), (85, .aload_n 0, 1, 0, 0, 0, 0), (86, .getfield 151, 3, 0, 9, 45, 0), (89, .ifCond .eq 7, 3, 0, 96, 0, 0), (92, .iconst 0, 1, 0, 0, 0, 0), (93, .goto 27, 3, 0, 120, 0, 0), (96, .aload_n 0, 1, 0, 0, 0, 0), (97, .iload 7, 2, 0, 0, 0, 0), (99, .aload_n 0, 1, 0, 0, 0, 0), (100, .iload 6, 2, 0, 0, 0, 0), (102, .aload_n 0, 1, 0, 0, 0, 0), (103, .aload_n 0, 1, 0, 0, 0, 0), (104, .iload 6, 2, 0, 0, 0, 0), (106, .iload_n 3, 1, 0, 0, 0, 0), (107, .invokevirtual 183, 3, 0, 135, 2, 912), (110, .iload_n 3, 1, 0, 0, 0, 0), (111, .invokevirtual 183, 3, 0, 135, 2, 912), (114, .invokevirtual 312, 3, 0, 138, 2, 912), (117, .invokevirtual 293, 3, 0, 144, 2, 912), (120, .ireturn, 1, 1, 0, 0, 0)]
def am_m175 : am_M := (yX9_and, cX9_and, 8, (some .int), am_r175)
def am_r176 : List am_I := [(0, .aload_n 0, 1, 0, 0, 0, 0), (1, .aload_n 0, 1, 0, 0, 0, 0), (2, .iload_n 1, 1, 0, 0, 0, 0), (3, .iload_n 2, 1, 0, 0, 0, 0), (4, .invokevirtual 336, 3, 0, 175, 2, 912), (7, .iload_n 1, 1, 0, 0, 0, 0), (8, .invokevirtual 293, 3, 0, 144, 2, 912), (11, .ireturn, 1, 1, 0, 0, 0)]
def am_m176 : am_M := (yX9_implies, cX9_implies, 3, (some .int), am_r176)
def am_r177 : List am_I := [(0, .aload_n 0, 1, 0, 0, 0, 0), (1, .getfield 151, 3, 0, 9, 45, 0), (4, .ifCond .eq 7, 3, 0, 11, 0, 0), (7, .iconst 0, 1, 0, 0, 0, 0), (8, .goto 9, 3, 0, 17, 0, 0), (11, .aload_n 0, 1, 0, 0, 0, 0), (12, .iload_n 1, 1, 0, 0, 0, 0), (13, .iload_n 2, 1, 0, 0, 0, 0), (14, .invokevirtual 312, 3, 0, 138, 2, 912), (17, .istore_n 3, 1, 0, 0, 0, 0), (18, .aload_n 0, 1, 0, 0, 0, 0), (19, .invokevirtual 333, 3, 0, 174, 0, 912), (22, .istore 4, 2, 0, 0, 0, 0), (24, .aload_n 0, 1, 0, 0, 0, 0), (25, .getfield 151, 3, 0, 9, 45, 0), (28, .ifCond .eq 7, 3, 0, 35, 0, 0), (31, .iconst 0, 1, 0, 0, 0, 0), (32, .goto 15, 3, 0, 47, 0, 0), (35, .aload_n 0, 1, 0, 0, 0, 0), (36, .iload_n 3, 1, 0, 0, 0, 0), (37, .aload_n 0, 1, 0, 0, 0, 0), (38, .iload_n 1, 1, 0, 0, 0, 0), (39, .iload 4, 2, 0, 0, 0, 0), (41, .invokevirtual 312, 3, 0, 138, 2, 912), (44, .invokevirtual 293, 3, 0, 144, 2, 912), (47, .ireturn, 1, 1, 0, 0, 0)]
def am_m177 : am_M := (yX9_all, cX9_all, 5, (some .int), am_r177)
def am_r178 : List am_I := [(0, .aload_n 0, 1, 0, 0, 0, 0), (1, .getfield 151, 3, 0, 9, 45, 0), (4, .ifCond .eq 5, 3, 0, 9, 0, 0), (7, .iconst 0, 1, 0, 0, 0, 0), (8, .ireturn, 1, 1, 0, 0, 0), (9, .aload_n 0, 1, 0, 0, 0, 0), (10, .getfield 60, 3, 0, 9, 21, 1), (13, .iload_n 1, 1, 0, 0, 0, 0), (14, .iaload, 1, 0, 0, 0, 0), (15, .istore_n 2, 1, 0, 0, 0, 0), (16, .aload_n 0, 1, 0, 0, 0, 0), (17, .iload_n 2, 1, 0, 0, 0, 0), (18, .aload_n 0, 1, 0, 0, 0, 0), (19, .getfield 20, 3, 0, 9, 6, 1), (22, .iload_n 2, 1, 0, 0, 0, 0), (23, .iaload, 1, 0, 0, 0, 0), (24, .invokevirtual 135, 3, 0, 128, 2, 912), (27, .istore_n 3, 1, 0, 0, 0, 0), (28, .aload_n 0, 1, 0, 0, 0, 0), (29, .aload_n 0, 1, 0, 0, 0, 0), (30, .iconst 1, 1, 0, 0, 0, 0), (31, .iload_n 3, 1, 0, 0, 0, 0), (32, .invokevirtual 205, 3, 0, 133, 2, 912), (35, .iload_n 1, 1, 0, 0, 0, 0), (36, .invokevirtual 183, 3, 0, 135, 2, 912), (39, .ireturn, 1, 1, 0, 0, 0)]
def am_m178 : am_M := (yX9_choiceOf, cX9_choiceOf, 4, (some .int), am_r178)
def am_r179 : List am_I := [(0, .aload_n 0, 1, 0, 0, 0, 0), (1, .getfield 151, 3, 0, 9, 45, 0), (4, .ifCond .eq 7, 3, 0, 11, 0, 0), (7, .iconst 0, 1, 0, 0, 0, 0), (8, .goto 9, 3, 0, 17, 0, 0), (11, .aload_n 0, 1, 0, 0, 0, 0), (12, .iload_n 1, 1, 0, 0, 0, 0), (13, .iload_n 2, 1, 0, 0, 0, 0), (14, .invokevirtual 312, 3, 0, 138, 2, 912), (17, .istore_n 3, 1, 0, 0, 0, 0), (18, .aload_n 0, 1, 0, 0, 0, 0), (19, .iload_n 3, 1, 0, 0, 0, 0), (20, .aload_n 0, 1, 0, 0, 0, 0), (21, .iload_n 3, 1, 0, 0, 0, 0), (22, .invokevirtual 339, 3, 0, 178, 1, 912), (25, .invokevirtual 183, 3, 0, 135, 2, 912), (28, .ireturn, 1, 1, 0, 0, 0)]
def am_m179 : am_M := (yX9_some, cX9_some, 4, (some .int), am_r179)
def am_r180 : List am_I := [(0, .aload_n 0, 1, 0, 0, 0, 0), (1, .iconst 2, 1, 0, 0, 0, 0), (2, .aload_n 0, 1, 0, 0, 0, 0), (3, .invokevirtual 131, 3, 0, 127, 0, 912), (6, .invokevirtual 330, 3, 0, 173, 2, 912), (9, .istore_n 2, 1, 0, 0, 0, 0), (10, .aload_n 0, 1, 0, 0, 0, 0), (11, .iload_n 1, 1, 0, 0, 0, 0), (12, .aload_n 0, 1, 0, 0, 0, 0), (13, .iload_n 2, 1, 0, 0, 0, 0), (14, .iload_n 2, 1, 0, 0, 0, 0), (15, .invokevirtual 342, 3, 0, 177, 2, 912), (18, .invokevirtual 345, 3, 0, 176, 2, 912), (21, .ireturn, 1, 1, 0, 0, 0)]
def am_m180 : am_M := (yX9_not, cX9_not, 3, (some .int), am_r180)
def am_r181 : List am_I := [(0, .aload_n 0, 1, 0, 0, 0, 0), (1, .iconst (-1), 1, 0, 0, 0, 0), (2, .iconst (-1), 1, 0, 0, 0, 0), (3, .iconst (-1), 1, 0, 0, 0, 0), (4, .invokevirtual 127, 3, 0, 126, 3, 912), (7, .istore_n 1, 1, 0, 0, 0, 0), (8, .aload_n 0, 1, 0, 0, 0, 0), (9, .bipush (-2), 2, 0, 0, 0, 0), (11, .iconst (-1), 1, 0, 0, 0, 0), (12, .iconst (-1), 1, 0, 0, 0, 0), (13, .invokevirtual 127, 3, 0, 126, 3, 912), (16, .istore_n 2, 1, 0, 0, 0, 0), (17, .aload_n 0, 1, 0, 0, 0, 0), (18, .getfield 151, 3, 0, 9, 45, 0), (21, .ifCond .eq 7, 3, 0, 28, 0, 0), (24, .iconst 0, 1, 0, 0, 0, 0), (25, .goto 9, 3, 0, 34, 0, 0), (28, .aload_n 0, 1, 0, 0, 0, 0), (29, .iload_n 1, 1, 0, 0, 0, 0), (30, .iload_n 2, 1, 0, 0, 0, 0), (31, .invokevirtual 135, 3, 0, 128, 2, 912), (34, .istore_n 3, 1, 0, 0, 0, 0), (35, .aload_n 0, 1, 0, 0, 0, 0), (36, .iconst 0, 1, 0, 0, 0, 0), (37, .iload_n 1, 1, 0, 0, 0, 0), (38, .invokevirtual 327, 3, 0, 132, 2, 912), (41, .istore 4, 2, 0, 0, 0, 0), (43, .aload_n 0, 1, 0, 0, 0, 0), (44, .iconst 1, 1, 0, 0, 0, 0), (45, .iload_n 3, 1, 0, 0, 0, 0), (46, .invokevirtual 327, 3, 0, 132, 2, 912), (49, .istore 5, 2, 0, 0, 0, 0), (51, .aload_n 0, 1, 0, 0, 0, 0), (52, .getfield 151, 3, 0, 9, 45, 0), (55, .ifCond .eq 7, 3, 0, 62, 0, 0), (58, .iconst 0, 1, 0, 0, 0, 0), (59, .goto 23, 3, 0, 82, 0, 0), (62, .aload_n 0, 1, 0, 0, 0, 0), (63, .aload_n 0, 1, 0, 0, 0, 0), (64, .iload 4, 2, 0, 0, 0, 0), (66, .aload_n 0, 1, 0, 0, 0, 0), (67, .iload 5, 2, 0, 0, 0, 0), (69, .iload 4, 2, 0, 0, 0, 0), (71, .invokevirtual 183, 3, 0, 135, 2, 912), (74, .invokevirtual 312, 3, 0, 138, 2, 912), (77, .iload 5, 2, 0, 0, 0, 0), (79, .invokevirtual 293, 3, 0, 144, 2, 912), (82, .ireturn, 1, 1, 0, 0, 0)]
def am_m181 : am_M := (yX9_extensionality, cX9_extensionality, 6, (some .int), am_r181)
def am_r182 : List am_I := [(0, .aload_n 0, 1, 0, 0, 0, 0), (1, .iconst (-1), 1, 0, 0, 0, 0), (2, .iconst (-1), 1, 0, 0, 0, 0), (3, .iconst (-1), 1, 0, 0, 0, 0), (4, .invokevirtual 127, 3, 0, 126, 3, 912), (7, .istore_n 1, 1, 0, 0, 0, 0), (8, .aload_n 0, 1, 0, 0, 0, 0), (9, .iconst 0, 1, 0, 0, 0, 0), (10, .iload_n 1, 1, 0, 0, 0, 0), (11, .invokevirtual 327, 3, 0, 132, 2, 912), (14, .istore_n 2, 1, 0, 0, 0, 0), (15, .aload_n 0, 1, 0, 0, 0, 0), (16, .iconst 1, 1, 0, 0, 0, 0), (17, .aload_n 0, 1, 0, 0, 0, 0), (18, .getfield 151, 3, 0, 9, 45, 0), (21, .ifCond .eq 7, 3, 0, 28, 0, 0), (24, .iconst 0, 1, 0, 0, 0, 0), (25, .goto 12, 3, 0, 37, 0, 0), (28, .aload_n 0, 1, 0, 0, 0, 0), (29, .iload_n 1, 1, 0, 0, 0, 0), (30, .aload_n 0, 1, 0, 0, 0, 0), (31, .invokevirtual 131, 3, 0, 127, 0, 912), (34, .invokevirtual 135, 3, 0, 128, 2, 912), (37, .invokevirtual 327, 3, 0, 132, 2, 912), (40, .istore_n 3, 1, 0, 0, 0, 0), (41, .aload_n 0, 1, 0, 0, 0, 0), (42, .getfield 151, 3, 0, 9, 45, 0), (45, .ifCond .eq 7, 3, 0, 52, 0, 0), (48, .iconst 0, 1, 0, 0, 0, 0), (49, .goto 23, 3, 0, 72, 0, 0), (52, .aload_n 0, 1, 0, 0, 0, 0), (53, .aload_n 0, 1, 0, 0, 0, 0), (54, .iload_n 3, 1, 0, 0, 0, 0), (55, .iload_n 2, 1, 0, 0, 0, 0), (56, .invokevirtual 183, 3, 0, 135, 2, 912), (59, .aload_n 0, 1, 0, 0, 0, 0), (60, .iload_n 3, 1, 0, 0, 0, 0), (61, .aload_n 0, 1, 0, 0, 0, 0), (62, .iload_n 3, 1, 0, 0, 0, 0), (63, .invokevirtual 339, 3, 0, 178, 1, 912), (66, .invokevirtual 183, 3, 0, 135, 2, 912), (69, .invokevirtual 345, 3, 0, 176, 2, 912), (72, .ireturn, 1, 1, 0, 0, 0)]
def am_m182 : am_M := (yX9_chosen, cX9_chosen, 4, (some .int), am_r182)
def am_r183 : List am_I := [(0, .aload_n 0, 1, 0, 0, 0, 0), (1, .iconst 1, 1, 0, 0, 0, 0), (2, .iconst (-1), 1, 0, 0, 0, 0), (3, .iconst (-1), 1, 0, 0, 0, 0), (4, .invokevirtual 127, 3, 0, 126, 3, 912), (7, .istore_n 1, 1, 0, 0, 0, 0), (8, .aload_n 0, 1, 0, 0, 0, 0), (9, .iconst 3, 1, 0, 0, 0, 0), (10, .aload_n 0, 1, 0, 0, 0, 0), (11, .getfield 151, 3, 0, 9, 45, 0), (14, .ifCond .eq 7, 3, 0, 21, 0, 0), (17, .iconst 0, 1, 0, 0, 0, 0), (18, .goto 9, 3, 0, 27, 0, 0), (21, .aload_n 0, 1, 0, 0, 0, 0), (22, .iload_n 1, 1, 0, 0, 0, 0), (23, .iload_n 1, 1, 0, 0, 0, 0), (24, .invokevirtual 135, 3, 0, 128, 2, 912), (27, .invokevirtual 330, 3, 5, 173, 2, 912), (30, .istore_n 2, 1, 0, 0, 0, 0), (31, .aload_n 0, 1, 0, 0, 0, 0), (32, .iconst 4, 1, 0, 0, 0, 0), (33, .iload_n 1, 1, 0, 0, 0, 0), (34, .invokevirtual 330, 3, 0, 173, 2, 912), (37, .istore_n 3, 1, 0, 0, 0, 0), (38, .aload_n 0, 1, 0, 0, 0, 0), (39, .iconst 5, 1, 0, 0, 0, 0), (40, .iload_n 1, 1, 0, 0, 0, 0), (41, .invokevirtual 330, 3, 0, 173, 2, 912), (44, .istore 4, 2, 0, 0, 0, 0), (46, .aload_n 0, 1, 0, 0, 0, 0), (47, .getfield 151, 3, 0, 9, 45, 0), (50, .ifCond .eq 5, 3, 0, 55, 0, 0), (53, .iconst 0, 1, 0, 0, 0, 0), (54, .ireturn, 1, 1, 0, 0, 0), (55, .aload_n 0, 1, 0, 0, 0, 0), (56, .iload_n 2, 1, 0, 0, 0, 0), (57, .iload_n 3, 1, 0, 0, 0, 0), (58, .invokevirtual 183, 3, 0, 135, 2, 912), (61, .istore 5, 2, 0, 0, 0, 0), (63, .aload_n 0, 1, 0, 0, 0, 0), (64, .aload_n 0, 1, 0, 0, 0, 0), (65, .iload 5, 2, 0, 0, 0, 0), (67, .aload_n 0, 1, 0, 0, 0, 0), (68, .iload_n 2, 1, 0, 0, 0, 0), (69, .iload 4, 2, 0, 0, 0, 0), (71, .invokevirtual 183, 3, 0, 135, 2, 912), (74, .invokevirtual 293, 3, 0, 144, 2, 912), (77, .aload_n 0, 1, 0, 0, 0, 0), (78, .iload_n 3, 1, 0, 0, 0, 0), (79, .iload 4, 2, 0, 0, 0, 0), (81, .invokevirtual 293, 3, 0, 144, 2, 912), (84, .invokevirtual 345, 3, 0, 176, 2, 912), (87, .istore 6, 2, 0, 0, 0, 0), (89, .aload_n 0, 1, 0, 0, 0, 0), (90, .iload_n 3, 1, 0, 0, 0, 0), (91, .aload_n 0, 1, 0, 0, 0, 0), (92, .iload 4, 2, 0, 0, 0, 0), (94, .iload 6, 2, 0, 0, 0, 0), (96, .invokevirtual 342, 3, 0, 177, 2, 912), (99, .invokevirtual 342, 3, 0, 177, 2, 912), (102, .istore 7, 2, 0, 0, 0, 0), (104, .aload_n 0, 1, 0, 0, 0, 0), (105, .iload 4, 2, 0, 0, 0, 0), (107, .aload_n 0, 1, 0, 0, 0, 0), (108, .iload_n 3, 1, 0, 0, 0, 0), (109, .aload_n 0, 1, 0, 0, 0, 0), (110, .aload_n 0, 1, 0, 0, 0, 0), (111, .iload 4, 2, 0, 0, 0, 0), (113, .iload 5, 2, 0, 0, 0, 0), (115, .invokevirtual 293, 3, 0, 144, 2, 912), (118, .invokevirtual 348, 3, 0, 180, 1, 912), (121, .invokevirtual 342, 3, 0, 177, 2, 912), (124, .invokevirtual 351, 3, 0, 179, 2, 912), (127, .istore 8, 2, 0, 0, 0, 0), (129, .aload_n 0, 1, 0, 0, 0, 0), (130, .iload_n 2, 1, 0, 0, 0, 0), (131, .aload_n 0, 1, 0, 0, 0, 0), (132, .iload 7, 2, 0, 0, 0, 0), (134, .iload 8, 2, 0, 0, 0, 0), (136, .invokevirtual 336, 3, 0, 175, 2, 912), (139, .invokevirtual 351, 3, 0, 179, 2, 912), (142, .ireturn, 1, 1, 0, 0, 0)]
def am_m183 : am_M := (yX9_infinite, cX9_infinite, 9, (some .int), am_r183)
def am_r184 : List am_I := [(0, .aload_n 0, 1, 0, 0, 0, 0), (1, .getfield 151, 3, 0, 9, 45, 0), (4, .ifCond .ne 23, 3, 0, 27, 0, 0), (7, .aload_n 0, 1, 0, 0, 0, 0), (8, .iload_n 1, 1, 0, 0, 0, 0), (9, .iconst 3, 1, 0, 0, 0, 0), (10, .invokestatic 220, 3, 0, 123, 2, 13), (13, .ifCond .ne 7, 3, 0, 20, 0, 0), (16, .iconst 1, 1, 0, 0, 0, 0), (17, .goto 4, 3, 0, 21, 0, 0), (20, .iconst 0, 1, 0, 0, 0, 0), (21, .invokevirtual 159, 3, 0, 124, 1, 912), (24, .ifCond .ne 4, 3, 0, 28, 0, 0), (27, .return_, 1, 1, 0, 0, 0), (28, .aload_n 0, 1, 0, 0, 0, 0), (29, .invokevirtual 258, 3, 0, 158, 0, 902), (32, .aload_n 0, 1, 0, 0, 0, 0), (33, .iload_n 1, 1, 0, 0, 0, 0), (34, .ifCond .ne 10, 3, 0, 44, 0, 0), (37, .aload_n 0, 1, 0, 0, 0, 0), (38, .invokevirtual 354, 3, 0, 181, 0, 912), (41, .goto 19, 3, 0, 60, 0, 0), (44, .iload_n 1, 1, 0, 0, 0, 0), (45, .iconst 1, 1, 0, 0, 0, 0), (46, .if_icmp .ne 10, 3, 0, 56, 0, 0), (49, .aload_n 0, 1, 0, 0, 0, 0), (50, .invokevirtual 357, 3, 0, 182, 0, 912), (53, .goto 7, 3, 0, 60, 0, 0), (56, .aload_n 0, 1, 0, 0, 0, 0), (57, .invokevirtual 360, 3, 0, 183, 0, 912), (60, .bipush 22, 2, 0, 0, 0, 0), (62, .invokevirtual 296, 3, 0, 159, 2, 902), (65, .return_, 1, 1, 0, 0, 0)]
def am_m184 : am_M := (yX9_stepAxiom, cX9_stepAxiom, 2, none, am_r184)
def am_r185 : List am_I := [(0, .aload_n 0, 1, 0, 0, 0, 0), (1, .iconst 0, 1, 0, 0, 0, 0), (2, .putfield 148, 3, 0, 9, 0, 0), (5, .aload_n 0, 1, 0, 0, 0, 0), (6, .getfield 211, 3, 0, 9, 1, 0), (9, .sipush 20000, 3, 0, 0, 0, 0), (12, .if_icmp .ne 5, 3, 0, 17, 0, 0), (15, .iconst 0, 1, 0, 0, 0, 0), (16, .ireturn, 1, 1, 1, 0, 0), (17, .aload_n 0, 1, 0, 0, 0, 0), (18, .getfield 7, 3, 0, 9, 2, 1), (21, .aload_n 0, 1, 0, 0, 0, 0), (22, .getfield 211, 3, 0, 9, 1, 0), (25, .iload_n 1, 1, 0, 0, 0, 0), (26, .iastore, 1, 0, 0, 0, 0), (27, .aload_n 0, 1, 0, 0, 0, 0), (28, .dup, 1, 0, 0, 0, 0), (29, .getfield 211, 3, 0, 9, 1, 0), (32, .iconst 1, 1, 0, 0, 0, 0), (33, .iadd, 1, 0, 0, 0, 0), (34, .putfield 211, 3, 0, 9, 1, 0), (37, .iconst 1, 1, 0, 0, 0, 0), (38, .ireturn, 1, 1, 1, 0, 0)]
def am_m185 : am_M := (yX9_say, cX9_say, 2, (some .boolean), am_r185)
def am_r186 : List am_I := [(0, .aload_n 0, 1, 5, 0, 0, 0), (1, .getfield 142, 3, 0, 9, 4, 0), (4, .iload_n 1, 1, 0, 0, 0, 0), (5, .if_icmp .le 61, 3, 0, 66, 0, 0), (8, .aload_n 0, 1, 0, 0, 0, 0), (9, .dup, 1, 0, 0, 0, 0), (10, .getfield 142, 3, 0, 9, 4, 0), (13, .iconst 1, 1, 0, 0, 0, 0), (14, .isub, 1, 0, 0, 0, 0), (15, .putfield 142, 3, 0, 9, 4, 0), (18, .aload_n 0, 1, 0, 0, 0, 0), (19, .getfield 35, 3, 0, 9, 11, 1), (22, .aload_n 0, 1, 0, 0, 0, 0), (23, .getfield 17, 3, 0, 9, 5, 1), (26, .aload_n 0, 1, 0, 0, 0, 0), (27, .getfield 142, 3, 0, 9, 4, 0), (30, .iaload, 1, 0, 0, 0, 0), (31, .aload_n 0, 1, 0, 0, 0, 0), (32, .getfield 20, 3, 0, 9, 6, 1), (35, .aload_n 0, 1, 0, 0, 0, 0), (36, .getfield 142, 3, 0, 9, 4, 0), (39, .iaload, 1, 0, 0, 0, 0), (40, .aload_n 0, 1, 0, 0, 0, 0), (41, .getfield 23, 3, 0, 9, 7, 1), (44, .aload_n 0, 1, 0, 0, 0, 0), (45, .getfield 142, 3, 0, 9, 4, 0), (48, .iaload, 1, 0, 0, 0, 0), (49, .iconst 0, 1, 0, 0, 0, 0), (50, .invokestatic 155, 3, 0, 125, 4, 13), (53, .aload_n 0, 1, 0, 0, 0, 0), (54, .getfield 32, 3, 0, 9, 10, 1), (57, .aload_n 0, 1, 0, 0, 0, 0), (58, .getfield 142, 3, 0, 9, 4, 0), (61, .iaload, 1, 0, 0, 0, 0), (62, .iastore, 1, 0, 0, 0, 0), (63, .goto (-63), 3, 0, 0, 0, 0), (66, .return_, 1, 1, 0, 0, 0)]
def am_m186 : am_M := (yX9_cutTypes, cX9_cutTypes, 2, none, am_r186)
def am_r187 : List am_I := [(0, .aload_n 0, 1, 5, 0, 0, 0), (1, .getfield 174, 3, 0, 9, 17, 0), (4, .iload_n 1, 1, 0, 0, 0, 0), (5, .if_icmp .le 69, 3, 0, 74, 0, 0), (8, .aload_n 0, 1, 0, 0, 0, 0), (9, .dup, 1, 0, 0, 0, 0), (10, .getfield 174, 3, 0, 9, 17, 0), (13, .iconst 1, 1, 0, 0, 0, 0), (14, .isub, 1, 0, 0, 0, 0), (15, .putfield 174, 3, 0, 9, 17, 0), (18, .aload_n 0, 1, 0, 0, 0, 0), (19, .getfield 75, 3, 0, 9, 26, 1), (22, .aload_n 0, 1, 0, 0, 0, 0), (23, .getfield 51, 3, 0, 9, 18, 1), (26, .aload_n 0, 1, 0, 0, 0, 0), (27, .getfield 174, 3, 0, 9, 17, 0), (30, .iaload, 1, 0, 0, 0, 0), (31, .aload_n 0, 1, 0, 0, 0, 0), (32, .getfield 54, 3, 0, 9, 19, 1), (35, .aload_n 0, 1, 0, 0, 0, 0), (36, .getfield 174, 3, 0, 9, 17, 0), (39, .iaload, 1, 0, 0, 0, 0), (40, .aload_n 0, 1, 0, 0, 0, 0), (41, .getfield 57, 3, 0, 9, 20, 1), (44, .aload_n 0, 1, 0, 0, 0, 0), (45, .getfield 174, 3, 0, 9, 17, 0), (48, .iaload, 1, 0, 0, 0, 0), (49, .aload_n 0, 1, 0, 0, 0, 0), (50, .getfield 60, 3, 0, 9, 21, 1), (53, .aload_n 0, 1, 0, 0, 0, 0), (54, .getfield 174, 3, 0, 9, 17, 0), (57, .iaload, 1, 0, 0, 0, 0), (58, .invokestatic 155, 3, 0, 125, 4, 13), (61, .aload_n 0, 1, 0, 0, 0, 0), (62, .getfield 72, 3, 0, 9, 25, 1), (65, .aload_n 0, 1, 0, 0, 0, 0), (66, .getfield 174, 3, 0, 9, 17, 0), (69, .iaload, 1, 0, 0, 0, 0), (70, .iastore, 1, 0, 0, 0, 0), (71, .goto (-71), 3, 0, 0, 0, 0), (74, .return_, 1, 1, 0, 0, 0)]
def am_m187 : am_M := (yX9_cutNodes, cX9_cutNodes, 2, none, am_r187)
def am_r188 : List am_I := [(0, .aload_n 0, 1, 0, 0, 0, 0), (1, .iconst 0, 1, 0, 0, 0, 0), (2, .putfield 148, 3, 0, 9, 0, 0), (5, .aload_n 0, 1, 0, 0, 0, 0), (6, .iconst 0, 1, 0, 0, 0, 0), (7, .putfield 208, 3, 0, 9, 49, 0), (10, .aload_n 0, 1, 0, 0, 0, 0), (11, .iconst (-1), 1, 0, 0, 0, 0), (12, .putfield 13, 3, 0, 9, 3, 0), (15, .aload_n 0, 1, 0, 0, 0, 0), (16, .iconst 0, 1, 0, 0, 0, 0), (17, .putfield 151, 3, 0, 9, 45, 2), (20, .iconst 0, 1, 0, 0, 0, 0), (21, .istore_n 1, 1, 0, 0, 0, 0), (22, .aload_n 0, 1, 5, 0, 0, 0), (23, .getfield 208, 3, 0, 9, 49, 0), (26, .aload_n 0, 1, 0, 0, 0, 0), (27, .getfield 211, 3, 0, 9, 1, 0), (30, .if_icmp .ge 148, 3, 0, 178, 0, 0), (33, .aload_n 0, 1, 0, 0, 0, 0), (34, .getfield 151, 3, 0, 9, 45, 0), (37, .ifCond .ne 141, 3, 0, 178, 0, 0), (40, .aload_n 0, 1, 0, 0, 0, 0), (41, .getfield 208, 3, 0, 9, 49, 0), (44, .istore_n 2, 1, 0, 0, 0, 0), (45, .aload_n 0, 1, 0, 0, 0, 0), (46, .getfield 174, 3, 0, 9, 17, 0), (49, .istore_n 3, 1, 0, 0, 0, 0), (50, .aload_n 0, 1, 0, 0, 0, 0), (51, .getfield 142, 3, 0, 9, 4, 0), (54, .istore 4, 2, 0, 0, 0, 0), (56, .aload_n 0, 1, 0, 0, 0, 0), (57, .invokevirtual 214, 3, 0, 147, 0, 912), (60, .istore 5, 2, 0, 0, 0, 0), (62, .iload 5, 2, 0, 0, 0, 0), (64, .ifCond .lt 24, 3, 0, 88, 0, 0), (67, .iload 5, 2, 0, 0, 0, 0), (69, .bipush 22, 2, 0, 0, 0, 0), (71, .if_icmp .gt 17, 3, 0, 88, 0, 0), (74, .iload 5, 2, 0, 0, 0, 0), (76, .bipush 6, 2, 0, 0, 0, 0), (78, .if_icmp .le 19, 3, 0, 97, 0, 0), (81, .iload 5, 2, 0, 0, 0, 0), (83, .bipush 10, 2, 0, 0, 0, 0), (85, .if_icmp .ge 12, 3, 0, 97, 0, 0), (88, .aload_n 0, 1, 0, 0, 0, 0), (89, .iconst 0, 1, 0, 0, 0, 0), (90, .invokevirtual 159, 3, 0, 124, 1, 912), (93, .pop, 1, 0, 0, 0, 0), (94, .goto 40, 3, 0, 134, 0, 0), (97, .iload 5, 2, 0, 0, 0, 0), (99, .iconst 2, 1, 0, 0, 0, 0), (100, .if_icmp .ge 12, 3, 0, 112, 0, 0), (103, .aload_n 0, 1, 0, 0, 0, 0), (104, .iload 5, 2, 0, 0, 0, 0), (106, .invokevirtual 363, 3, 0, 154, 1, 902), (109, .goto 25, 3, 0, 134, 0, 0), (112, .iload 5, 2, 0, 0, 0, 0), (114, .bipush 7, 2, 0, 0, 0, 0), (116, .if_icmp .ge 12, 3, 0, 128, 0, 0), (119, .aload_n 0, 1, 0, 0, 0, 0), (120, .iload 5, 2, 0, 0, 0, 0), (122, .invokevirtual 366, 3, 0, 155, 1, 902), (125, .goto 9, 3, 0, 134, 0, 0), (128, .aload_n 0, 1, 0, 0, 0, 0), (129, .iload 5, 2, 0, 0, 0, 0), (131, .invokevirtual 369, 3, 0, 162, 1, 902), (134, .aload_n 0, 1, 65, 0, 0, 0), (135, .getfield 151, 3, 0, 9, 45, 0), (138, .ifCond .eq 22, 3, 0, 160, 0, 0), (141, .aload_n 0, 1, 0, 0, 0, 0), (142, .iload_n 2, 1, 0, 0, 0, 0), (143, .putfield 13, 3, 0, 9, 3, 0), (146, .aload_n 0, 1, 0, 0, 0, 0), (147, .iload_n 3, 1, 0, 0, 0, 0), (148, .invokevirtual 372, 3, 0, 187, 1, 902), (151, .aload_n 0, 1, 0, 0, 0, 0), (152, .iload 4, 2, 0, 0, 0, 0), (154, .invokevirtual 375, 3, 0, 186, 1, 902), (157, .goto 18, 3, 0, 175, 0, 0), (160, .iload_n 1, 1, 0, 0, 0, 0), (161, .iload 5, 2, 0, 0, 0, 0), (163, .bipush 9, 2, 0, 0, 0, 0), (165, .if_icmp .le 7, 3, 0, 172, 0, 0), (168, .iconst 1, 1, 0, 0, 0, 0), (169, .goto 4, 3, 0, 173, 0, 0), (172, .iconst 0, 1, 0, 0, 0, 0), (173, .iadd, 1, 0, 0, 0, 0), (174, .istore_n 1, 1, 0, 0, 0, 0), (175, .goto (-153), 3, 0, 22, 0, 0), (178, .aload_n 0, 1, 0, 0, 0, 0), (179, .iconst 0, 1, 0, 0, 0, 0), (180, .putfield 211, 3, 0, 9, 1, 0), (183, .iload_n 1, 1, 0, 0, 0, 0), (184, .ireturn, 1, 1, 0, 0, 0)]
def am_m188 : am_M := (yX9_judge, cX9_judge, 6, (some .int), am_r188)
def am_r189 : List am_I := [(0, .aload_n 0, 1, 0, 0, 0, 0), (1, .iconst 0, 1, 0, 0, 0, 0), (2, .putfield 148, 3, 0, 9, 0, 0), (5, .aload_n 0, 1, 0, 0, 0, 0), (6, .getfield 13, 3, 0, 9, 3, 0), (9, .ireturn, 1, 1, 0, 0, 0)]
def am_m189 : am_M := (yX9_fault, cX9_fault, 1, (some .int), am_r189)
def am_r190 : List am_I := [(0, .aload_n 0, 1, 0, 0, 0, 0), (1, .iconst 0, 1, 0, 0, 0, 0), (2, .putfield 148, 3, 0, 9, 0, 0), (5, .aload_n 0, 1, 0, 0, 0, 0), (6, .getfield 229, 3, 0, 9, 32, 0), (9, .ireturn, 1, 1, 0, 0, 0)]
def am_m190 : am_M := (yX9_size, cX9_size, 1, (some .int), am_r190)
def am_r191 : List am_I := [(0, .aload_n 0, 1, 0, 0, 0, 0), (1, .iload_n 1, 1, 0, 0, 0, 0), (2, .aload_n 0, 1, 0, 0, 0, 0), (3, .getfield 229, 3, 0, 9, 32, 0), (6, .invokestatic 220, 3, 0, 123, 2, 13), (9, .ifCond .eq 7, 3, 0, 16, 0, 0), (12, .iconst 1, 1, 0, 0, 0, 0), (13, .goto 4, 3, 0, 17, 0, 0), (16, .iconst 0, 1, 0, 0, 0, 0), (17, .putfield 148, 3, 0, 9, 0, 0), (20, .aload_n 0, 1, 0, 0, 0, 0), (21, .getfield 148, 3, 0, 9, 0, 0), (24, .ifCond .le 7, 3, 0, 31, 0, 0), (27, .iconst 0, 1, 0, 0, 0, 0), (28, .goto 9, 3, 0, 37, 0, 0), (31, .aload_n 0, 1, 0, 0, 0, 0), (32, .getfield 93, 3, 0, 9, 37, 1), (35, .iload_n 1, 1, 0, 0, 0, 0), (36, .iaload, 1, 0, 0, 0, 0), (37, .ireturn, 1, 1, 0, 0, 0)]
def am_m191 : am_M := (yX9_hypotheses, cX9_hypotheses, 2, (some .int), am_r191)
def am_r192 : List am_I := [(0, .iload_n 1, 1, 0, 0, 0, 0), (1, .istore_n 3, 1, 0, 0, 0, 0), (2, .iload_n 2, 1, 0, 0, 0, 0), (3, .istore 4, 2, 0, 0, 0, 0), (5, .iload 4, 2, 27, 0, 0, 0), (7, .ifCond .le 78, 3, 0, 85, 0, 0), (10, .iinc 4 (-1), 3, 0, 0, 0, 0), (13, .aload_n 0, 1, 0, 0, 0, 0), (14, .getfield 51, 3, 0, 9, 18, 1), (17, .iload_n 3, 1, 0, 0, 0, 0), (18, .iaload, 1, 0, 0, 0, 0), (19, .iconst 5, 1, 0, 0, 0, 0), (20, .if_icmp .ne 13, 3, 0, 33, 0, 0), (23, .aload_n 0, 1, 0, 0, 0, 0), (24, .getfield 57, 3, 0, 9, 20, 1), (27, .iload_n 3, 1, 0, 0, 0, 0), (28, .iaload, 1, 0, 0, 0, 0), (29, .istore_n 3, 1, 0, 0, 0, 0), (30, .goto (-25), 3, 0, 5, 0, 0), (33, .iload 4, 2, 0, 0, 0, 0), (35, .aload_n 0, 1, 0, 0, 0, 0), (36, .getfield 63, 3, 0, 9, 22, 1), (39, .aload_n 0, 1, 0, 0, 0, 0), (40, .getfield 54, 3, 0, 9, 19, 1), (43, .iload_n 3, 1, 0, 0, 0, 0), (44, .iaload, 1, 0, 0, 0, 0), (45, .iaload, 1, 0, 0, 0, 0), (46, .if_icmp .ge 13, 3, 0, 59, 0, 0), (49, .aload_n 0, 1, 0, 0, 0, 0), (50, .getfield 54, 3, 0, 9, 19, 1), (53, .iload_n 3, 1, 0, 0, 0, 0), (54, .iaload, 1, 0, 0, 0, 0), (55, .istore_n 3, 1, 0, 0, 0, 0), (56, .goto (-51), 3, 0, 5, 0, 0), (59, .iload 4, 2, 0, 0, 0, 0), (61, .aload_n 0, 1, 0, 0, 0, 0), (62, .getfield 63, 3, 0, 9, 22, 1), (65, .aload_n 0, 1, 0, 0, 0, 0), (66, .getfield 54, 3, 0, 9, 19, 1), (69, .iload_n 3, 1, 0, 0, 0, 0), (70, .iaload, 1, 0, 0, 0, 0), (71, .iaload, 1, 0, 0, 0, 0), (72, .isub, 1, 0, 0, 0, 0), (73, .istore 4, 2, 0, 0, 0, 0), (75, .aload_n 0, 1, 0, 0, 0, 0), (76, .getfield 57, 3, 0, 9, 20, 1), (79, .iload_n 3, 1, 0, 0, 0, 0), (80, .iaload, 1, 0, 0, 0, 0), (81, .istore_n 3, 1, 0, 0, 0, 0), (82, .goto (-77), 3, 0, 5, 0, 0), (85, .iload_n 3, 1, 0, 0, 0, 0), (86, .ireturn, 1, 1, 0, 0, 0)]
def am_m192 : am_M := (yX9_partAt, cX9_partAt, 5, (some .int), am_r192)
def am_r193 : List am_I := [(0, .aload_n 0, 1, 0, 0, 0, 0), (1, .iload_n 1, 1, 0, 0, 0, 0), (2, .aload_n 0, 1, 0, 0, 0, 0), (3, .getfield 229, 3, 0, 9, 32, 0), (6, .invokestatic 220, 3, 0, 123, 2, 13), (9, .ifCond .ne 18, 3, 0, 27, 0, 0), (12, .iload_n 2, 1, 0, 0, 0, 0), (13, .iconst (-1), 1, 0, 0, 0, 0), (14, .if_icmp .lt 13, 3, 0, 27, 0, 0), (17, .iload_n 2, 1, 0, 0, 0, 0), (18, .aload_n 0, 1, 0, 0, 0, 0), (19, .getfield 93, 3, 0, 9, 37, 1), (22, .iload_n 1, 1, 0, 0, 0, 0), (23, .iaload, 1, 0, 0, 0, 0), (24, .if_icmp .lt 7, 3, 0, 31, 0, 0), (27, .iconst 1, 1, 0, 0, 0, 0), (28, .goto 4, 3, 0, 32, 0, 0), (31, .iconst 0, 1, 0, 0, 0, 0), (32, .putfield 148, 3, 17, 9, 0, 0), (35, .aload_n 0, 1, 0, 0, 0, 0), (36, .getfield 148, 3, 0, 9, 0, 0), (39, .ifCond .le 5, 3, 0, 44, 0, 0), (42, .iconst (-1), 1, 0, 0, 0, 0), (43, .ireturn, 1, 1, 0, 0, 0), (44, .iload_n 2, 1, 0, 0, 0, 0), (45, .ifCond .ge 12, 3, 0, 57, 0, 0), (48, .aload_n 0, 1, 0, 0, 0, 0), (49, .getfield 87, 3, 0, 9, 35, 1), (52, .iload_n 1, 1, 0, 0, 0, 0), (53, .iaload, 1, 0, 0, 0, 0), (54, .goto 16, 3, 0, 70, 0, 0), (57, .aload_n 0, 1, 0, 0, 0, 0), (58, .getfield 112, 3, 0, 9, 43, 1), (61, .aload_n 0, 1, 0, 0, 0, 0), (62, .getfield 90, 3, 0, 9, 36, 1), (65, .iload_n 1, 1, 0, 0, 0, 0), (66, .iaload, 1, 0, 0, 0, 0), (67, .iload_n 2, 1, 0, 0, 0, 0), (68, .iadd, 1, 0, 0, 0, 0), (69, .iaload, 1, 0, 0, 0, 0), (70, .istore 4, 2, 0, 0, 0, 0), (72, .aload_n 0, 1, 0, 0, 0, 0), (73, .iload_n 3, 1, 0, 0, 0, 0), (74, .aload_n 0, 1, 0, 0, 0, 0), (75, .getfield 63, 3, 0, 9, 22, 1), (78, .iload 4, 2, 0, 0, 0, 0), (80, .iaload, 1, 0, 0, 0, 0), (81, .invokestatic 220, 3, 0, 123, 2, 13), (84, .ifCond .eq 7, 3, 0, 91, 0, 0), (87, .iconst 1, 1, 0, 0, 0, 0), (88, .goto 4, 3, 0, 92, 0, 0), (91, .iconst 0, 1, 0, 0, 0, 0), (92, .putfield 148, 3, 0, 9, 0, 0), (95, .aload_n 0, 1, 0, 0, 0, 0), (96, .getfield 148, 3, 0, 9, 0, 0), (99, .ifCond .le 7, 3, 0, 106, 0, 0), (102, .iconst (-1), 1, 0, 0, 0, 0), (103, .goto 10, 3, 0, 113, 0, 0), (106, .aload_n 0, 1, 0, 0, 0, 0), (107, .iload 4, 2, 0, 0, 0, 0), (109, .iload_n 3, 1, 0, 0, 0, 0), (110, .invokevirtual 378, 3, 0, 192, 2, 912), (113, .ireturn, 1, 1, 0, 0, 0)]
def am_m193 : am_M := (yX9_look, cX9_look, 5, (some .int), am_r193)
def am_r194 : List am_I := [(0, .aload_n 0, 1, 0, 0, 0, 0), (1, .iload_n 1, 1, 0, 0, 0, 0), (2, .iload_n 2, 1, 0, 0, 0, 0), (3, .iload_n 3, 1, 0, 0, 0, 0), (4, .invokevirtual 381, 3, 0, 193, 3, 912), (7, .istore 4, 2, 0, 0, 0, 0), (9, .aload_n 0, 1, 0, 0, 0, 0), (10, .getfield 148, 3, 0, 9, 0, 0), (13, .ifCond .le 5, 3, 0, 18, 0, 0), (16, .iconst 0, 1, 0, 0, 0, 0), (17, .ireturn, 1, 1, 0, 0, 0), (18, .aload_n 0, 1, 0, 0, 0, 0), (19, .getfield 51, 3, 0, 9, 18, 1), (22, .iload 4, 2, 0, 0, 0, 0), (24, .iaload, 1, 0, 0, 0, 0), (25, .istore 5, 2, 0, 0, 0, 0), (27, .iload 5, 2, 0, 0, 0, 0), (29, .iconst 4, 1, 0, 0, 0, 0), (30, .if_icmp .ne 7, 3, 0, 37, 0, 0), (33, .iconst (-1), 1, 0, 0, 0, 0), (34, .goto 46, 3, 0, 80, 0, 0), (37, .iload 5, 2, 0, 0, 0, 0), (39, .iconst 5, 1, 0, 0, 0, 0), (40, .if_icmp .ne 8, 3, 0, 48, 0, 0), (43, .bipush (-2), 2, 0, 0, 0, 0), (45, .goto 35, 3, 0, 80, 0, 0), (48, .iconst 4, 1, 0, 0, 0, 0), (49, .aload_n 0, 1, 0, 0, 0, 0), (50, .getfield 54, 3, 0, 9, 19, 1), (53, .iload 4, 2, 0, 0, 0, 0), (55, .iaload, 1, 0, 0, 0, 0), (56, .imul, 1, 0, 0, 0, 0), (57, .iload 5, 2, 0, 0, 0, 0), (59, .bipush 6, 2, 0, 0, 0, 0), (61, .if_icmp .ne 7, 3, 0, 68, 0, 0), (64, .iconst 0, 1, 0, 0, 0, 0), (65, .goto 14, 3, 0, 79, 0, 0), (68, .iload 5, 2, 0, 0, 0, 0), (70, .iconst 2, 1, 0, 0, 0, 0), (71, .if_icmp .ne 7, 3, 0, 78, 0, 0), (74, .iconst 1, 1, 0, 0, 0, 0), (75, .goto 4, 3, 0, 79, 0, 0), (78, .iconst 2, 1, 0, 0, 0, 0), (79, .iadd, 1, 0, 0, 0, 0), (80, .ireturn, 1, 1, 0, 0, 0)]
def am_m194 : am_M := (yX9_symbol, cX9_symbol, 6, (some .int), am_r194)
def am_r195 : List am_I := [(0, .aload_n 0, 1, 0, 0, 0, 0), (1, .iload_n 1, 1, 0, 0, 0, 0), (2, .iload_n 2, 1, 0, 0, 0, 0), (3, .iload_n 3, 1, 0, 0, 0, 0), (4, .invokevirtual 381, 3, 0, 193, 3, 912), (7, .istore 5, 2, 0, 0, 0, 0), (9, .aload_n 0, 1, 0, 0, 0, 0), (10, .getfield 148, 3, 0, 9, 0, 0), (13, .ifCond .le 5, 3, 0, 18, 0, 0), (16, .iconst 0, 1, 0, 0, 0, 0), (17, .ireturn, 1, 1, 0, 0, 0), (18, .aload_n 0, 1, 0, 0, 0, 0), (19, .getfield 60, 3, 0, 9, 21, 1), (22, .iload 5, 2, 0, 0, 0, 0), (24, .iaload, 1, 0, 0, 0, 0), (25, .istore 6, 2, 0, 0, 0, 0), (27, .aload_n 0, 1, 0, 0, 0, 0), (28, .iload 4, 2, 0, 0, 0, 0), (30, .aload_n 0, 1, 0, 0, 0, 0), (31, .getfield 26, 3, 0, 9, 8, 1), (34, .iload 6, 2, 0, 0, 0, 0), (36, .iaload, 1, 0, 0, 0, 0), (37, .invokestatic 220, 3, 0, 123, 2, 13), (40, .ifCond .eq 7, 3, 0, 47, 0, 0), (43, .iconst 1, 1, 0, 0, 0, 0), (44, .goto 4, 3, 0, 48, 0, 0), (47, .iconst 0, 1, 0, 0, 0, 0), (48, .putfield 148, 3, 0, 9, 0, 0), (51, .aload_n 0, 1, 0, 0, 0, 0), (52, .getfield 148, 3, 0, 9, 0, 0), (55, .ifCond .le 5, 3, 0, 60, 0, 0), (58, .iconst 0, 1, 0, 0, 0, 0), (59, .ireturn, 1, 1, 0, 0, 0), (60, .iload 4, 2, 0, 0, 0, 0), (62, .istore 7, 2, 0, 0, 0, 0), (64, .iload 7, 2, 195, 0, 0, 0), (66, .ifCond .le 83, 3, 0, 149, 0, 0), (69, .iinc 7 (-1), 3, 0, 0, 0, 0), (72, .iload 7, 2, 0, 0, 0, 0), (74, .aload_n 0, 1, 0, 0, 0, 0), (75, .getfield 26, 3, 0, 9, 8, 1), (78, .aload_n 0, 1, 0, 0, 0, 0), (79, .getfield 20, 3, 0, 9, 6, 1), (82, .iload 6, 2, 0, 0, 0, 0), (84, .iaload, 1, 0, 0, 0, 0), (85, .iaload, 1, 0, 0, 0, 0), (86, .if_icmp .ge 7, 3, 0, 93, 0, 0), (89, .iconst 1, 1, 0, 0, 0, 0), (90, .goto 4, 3, 0, 94, 0, 0), (93, .iconst 0, 1, 0, 0, 0, 0), (94, .istore 8, 2, 0, 0, 0, 0), (96, .iload 7, 2, 0, 0, 0, 0), (98, .iload 8, 2, 0, 0, 0, 0), (100, .ifCond .eq 7, 3, 0, 107, 0, 0), (103, .iconst 0, 1, 0, 0, 0, 0), (104, .goto 15, 3, 0, 119, 0, 0), (107, .aload_n 0, 1, 0, 0, 0, 0), (108, .getfield 26, 3, 0, 9, 8, 1), (111, .aload_n 0, 1, 0, 0, 0, 0), (112, .getfield 20, 3, 0, 9, 6, 1), (115, .iload 6, 2, 0, 0, 0, 0), (117, .iaload, 1, 0, 0, 0, 0), (118, .iaload, 1, 0, 0, 0, 0), (119, .isub, 1, 323, 0, 0, 0), (120, .istore 7, 2, 0, 0, 0, 0), (122, .iload 8, 2, 0, 0, 0, 0), (124, .ifCond .eq 13, 3, 0, 137, 0, 0), (127, .aload_n 0, 1, 0, 0, 0, 0), (128, .getfield 20, 3, 0, 9, 6, 1), (131, .iload 6, 2, 0, 0, 0, 0), (133, .iaload, 1, 0, 0, 0, 0), (134, .goto 10, 3, 0, 144, 0, 0), (137, .aload_n 0, 1, 0, 0, 0, 0), (138, .getfield 23, 3, 0, 9, 7, 1), (141, .iload 6, 2, 0, 0, 0, 0), (143, .iaload, 1, 0, 0, 0, 0), (144, .istore 6, 2, 0, 0, 0, 0), (146, .goto (-82), 3, 0, 64, 0, 0), (149, .aload_n 0, 1, 0, 0, 0, 0), (150, .getfield 17, 3, 0, 9, 5, 1), (153, .iload 6, 2, 0, 0, 0, 0), (155, .iaload, 1, 0, 0, 0, 0), (156, .ireturn, 1, 1, 0, 0, 0)]
def am_m195 : am_M := (yX9_typeSymbol, cX9_typeSymbol, 9, (some .int), am_r195)
def am_r196 : List am_I := [(0, .iload_n 1, 1, 0, 0, 0, 0), (1, .ifCond .lt 15, 3, 0, 16, 0, 0), (4, .iload_n 1, 1, 0, 0, 0, 0), (5, .aload_n 0, 1, 0, 0, 0, 0), (6, .getfield 229, 3, 0, 9, 32, 0), (9, .if_icmp .gt 7, 3, 0, 16, 0, 0), (12, .iconst 1, 1, 0, 0, 0, 0), (13, .goto 4, 3, 0, 17, 0, 0), (16, .iconst 0, 1, 0, 0, 0, 0), (17, .istore_n 2, 1, 0, 0, 0, 0), (18, .iload_n 1, 1, 0, 0, 0, 0), (19, .istore_n 3, 1, 0, 0, 0, 0), (20, .iload_n 2, 1, 15, 0, 0, 0), (21, .ifCond .eq 45, 3, 0, 66, 0, 0), (24, .iload_n 3, 1, 0, 0, 0, 0), (25, .aload_n 0, 1, 0, 0, 0, 0), (26, .getfield 229, 3, 0, 9, 32, 0), (29, .if_icmp .ge 37, 3, 0, 66, 0, 0), (32, .aload_n 0, 1, 0, 0, 0, 0), (33, .getfield 96, 3, 0, 9, 38, 1), (36, .iload_n 3, 1, 0, 0, 0, 0), (37, .iaload, 1, 0, 0, 0, 0), (38, .bipush 20, 2, 0, 0, 0, 0), (40, .if_icmp .eq 18, 3, 0, 58, 0, 0), (43, .aload_n 0, 1, 0, 0, 0, 0), (44, .getfield 96, 3, 0, 9, 38, 1), (47, .iload_n 3, 1, 0, 0, 0, 0), (48, .iaload, 1, 0, 0, 0, 0), (49, .bipush 21, 2, 0, 0, 0, 0), (51, .if_icmp .eq 7, 3, 0, 58, 0, 0), (54, .iconst 1, 1, 0, 0, 0, 0), (55, .goto 4, 3, 0, 59, 0, 0), (58, .iconst 0, 1, 0, 0, 0, 0), (59, .istore_n 2, 1, 0, 0, 0, 0), (60, .iinc 3 1, 3, 0, 0, 0, 0), (63, .goto (-43), 3, 0, 20, 0, 0), (66, .iload_n 2, 1, 0, 0, 0, 0), (67, .ireturn, 1, 1, 1, 0, 0)]
def am_m196 : am_M := (yX9_canCut, cX9_canCut, 4, (some .boolean), am_r196)
def am_r197 : List am_I := [(0, .iload_n 1, 1, 0, 0, 0, 0), (1, .istore_n 2, 1, 0, 0, 0, 0), (2, .iload_n 2, 1, 9, 0, 0, 0), (3, .aload_n 0, 1, 0, 0, 0, 0), (4, .getfield 229, 3, 0, 9, 32, 0), (7, .if_icmp .ge 74, 3, 0, 81, 0, 0), (10, .aload_n 0, 1, 0, 0, 0, 0), (11, .dup, 1, 0, 0, 0, 0), (12, .getfield 252, 3, 0, 9, 34, 0), (15, .aload_n 0, 1, 0, 0, 0, 0), (16, .getfield 63, 3, 0, 9, 22, 1), (19, .aload_n 0, 1, 0, 0, 0, 0), (20, .getfield 87, 3, 0, 9, 35, 1), (23, .iload_n 2, 1, 0, 0, 0, 0), (24, .iaload, 1, 0, 0, 0, 0), (25, .iaload, 1, 0, 0, 0, 0), (26, .isub, 1, 0, 0, 0, 0), (27, .putfield 252, 3, 0, 9, 34, 0), (30, .iconst 0, 1, 0, 0, 0, 0), (31, .istore_n 3, 1, 0, 0, 0, 0), (32, .iload_n 3, 1, 17, 0, 0, 0), (33, .aload_n 0, 1, 0, 0, 0, 0), (34, .getfield 93, 3, 0, 9, 37, 1), (37, .iload_n 2, 1, 0, 0, 0, 0), (38, .iaload, 1, 0, 0, 0, 0), (39, .if_icmp .ge 36, 3, 0, 75, 0, 0), (42, .aload_n 0, 1, 0, 0, 0, 0), (43, .dup, 1, 0, 0, 0, 0), (44, .getfield 252, 3, 0, 9, 34, 0), (47, .aload_n 0, 1, 0, 0, 0, 0), (48, .getfield 63, 3, 0, 9, 22, 1), (51, .aload_n 0, 1, 0, 0, 0, 0), (52, .getfield 112, 3, 0, 9, 43, 1), (55, .aload_n 0, 1, 0, 0, 0, 0), (56, .getfield 90, 3, 0, 9, 36, 1), (59, .iload_n 2, 1, 0, 0, 0, 0), (60, .iaload, 1, 0, 0, 0, 0), (61, .iload_n 3, 1, 0, 0, 0, 0), (62, .iadd, 1, 0, 0, 0, 0), (63, .iaload, 1, 0, 0, 0, 0), (64, .iaload, 1, 0, 0, 0, 0), (65, .isub, 1, 0, 0, 0, 0), (66, .putfield 252, 3, 0, 9, 34, 0), (69, .iinc 3 1, 3, 0, 0, 0, 0), (72, .goto (-40), 3, 0, 32, 0, 0), (75, .iinc 2 1, 3, 0, 0, 0, 0), (78, .goto (-76), 3, 0, 2, 0, 0), (81, .aload_n 0, 1, 0, 0, 0, 0), (82, .iload_n 1, 1, 0, 0, 0, 0), (83, .aload_n 0, 1, 0, 0, 0, 0), (84, .getfield 229, 3, 0, 9, 32, 0), (87, .if_icmp .ge 12, 3, 0, 99, 0, 0), (90, .aload_n 0, 1, 0, 0, 0, 0), (91, .getfield 90, 3, 0, 9, 36, 1), (94, .iload_n 1, 1, 0, 0, 0, 0), (95, .iaload, 1, 0, 0, 0, 0), (96, .goto 7, 3, 0, 103, 0, 0), (99, .aload_n 0, 1, 0, 0, 0, 0), (100, .getfield 246, 3, 0, 9, 33, 0), (103, .putfield 246, 3, 0, 9, 33, 0), (106, .aload_n 0, 1, 0, 0, 0, 0), (107, .iload_n 1, 1, 0, 0, 0, 0), (108, .putfield 229, 3, 0, 9, 32, 0), (111, .aload_n 0, 1, 0, 0, 0, 0), (112, .iload_n 1, 1, 0, 0, 0, 0), (113, .ifCond .le 14, 3, 0, 127, 0, 0), (116, .aload_n 0, 1, 0, 0, 0, 0), (117, .getfield 99, 3, 0, 9, 39, 1), (120, .iload_n 1, 1, 0, 0, 0, 0), (121, .iconst 1, 1, 0, 0, 0, 0), (122, .isub, 1, 0, 0, 0, 0), (123, .iaload, 1, 0, 0, 0, 0), (124, .goto 4, 3, 0, 128, 0, 0), (127, .iconst 0, 1, 0, 0, 0, 0), (128, .invokevirtual 372, 3, 5, 187, 1, 902), (131, .aload_n 0, 1, 0, 0, 0, 0), (132, .iload_n 1, 1, 0, 0, 0, 0), (133, .ifCond .le 14, 3, 0, 147, 0, 0), (136, .aload_n 0, 1, 0, 0, 0, 0), (137, .getfield 102, 3, 0, 9, 40, 1), (140, .iload_n 1, 1, 0, 0, 0, 0), (141, .iconst 1, 1, 0, 0, 0, 0), (142, .isub, 1, 0, 0, 0, 0), (143, .iaload, 1, 0, 0, 0, 0), (144, .goto 7, 3, 0, 151, 0, 0), (147, .aload_n 0, 1, 0, 0, 0, 0), (148, .getfield 145, 3, 0, 9, 44, 0), (151, .invokevirtual 375, 3, 5, 186, 1, 902), (154, .aload_n 0, 1, 0, 0, 0, 0), (155, .iload_n 1, 1, 0, 0, 0, 0), (156, .ifCond .le 14, 3, 0, 170, 0, 0), (159, .aload_n 0, 1, 0, 0, 0, 0), (160, .getfield 105, 3, 0, 9, 41, 1), (163, .iload_n 1, 1, 0, 0, 0, 0), (164, .iconst 1, 1, 0, 0, 0, 0), (165, .isub, 1, 0, 0, 0, 0), (166, .iaload, 1, 0, 0, 0, 0), (167, .goto 4, 3, 0, 171, 0, 0), (170, .iconst 0, 1, 0, 0, 0, 0), (171, .putfield 217, 3, 0, 9, 28, 0), (174, .aload_n 0, 1, 0, 0, 0, 0), (175, .iload_n 1, 1, 0, 0, 0, 0), (176, .ifCond .le 14, 3, 0, 190, 0, 0), (179, .aload_n 0, 1, 0, 0, 0, 0), (180, .getfield 108, 3, 0, 9, 42, 1), (183, .iload_n 1, 1, 0, 0, 0, 0), (184, .iconst 1, 1, 0, 0, 0, 0), (185, .isub, 1, 0, 0, 0, 0), (186, .iaload, 1, 0, 0, 0, 0), (187, .goto 4, 3, 0, 191, 0, 0), (190, .iconst 0, 1, 0, 0, 0, 0), (191, .putfield 223, 3, 0, 9, 29, 0), (194, .return_, 1, 1, 0, 0, 0)]
def am_m197 : am_M := (yX9_cutTo, cX9_cutTo, 4, none, am_r197)
def am_r198 : List am_I := [(0, .aload_n 0, 1, 0, 0, 0, 0), (1, .aload_n 0, 1, 0, 0, 0, 0), (2, .iload_n 1, 1, 0, 0, 0, 0), (3, .invokevirtual 384, 3, 0, 196, 1, 912), (6, .ifCond .eq 7, 3, 0, 13, 0, 0), (9, .iconst 0, 1, 0, 0, 0, 0), (10, .goto 4, 3, 0, 14, 0, 0), (13, .iconst 1, 1, 0, 0, 0, 0), (14, .putfield 148, 3, 0, 9, 0, 0), (17, .aload_n 0, 1, 0, 0, 0, 0), (18, .getfield 148, 3, 0, 9, 0, 0), (21, .ifCond .ne 8, 3, 0, 29, 0, 0), (24, .aload_n 0, 1, 0, 0, 0, 0), (25, .iload_n 1, 1, 0, 0, 0, 0), (26, .invokevirtual 387, 3, 0, 197, 1, 902), (29, .return_, 1, 1, 0, 0, 0)]
def am_m198 : am_M := (yX9_cut, cX9_cut, 2, none, am_r198)
def am_r199 : List am_I := [(0, .aload_n 0, 1, 0, 0, 0, 0), (1, .getfield 174, 3, 0, 9, 17, 0), (4, .istore 4, 2, 0, 0, 0, 0), (6, .iload_n 2, 1, 0, 0, 0, 0), (7, .istore 5, 2, 0, 0, 0, 0), (9, .iload 5, 2, 65, 0, 0, 0), (11, .iload 4, 2, 0, 0, 0, 0), (13, .if_icmp .ge 27, 3, 0, 40, 0, 0), (16, .aload_n 0, 1, 0, 0, 0, 0), (17, .getfield 78, 3, 0, 9, 27, 1), (20, .iload 5, 2, 0, 0, 0, 0), (22, .iload 5, 2, 0, 0, 0, 0), (24, .iload_n 1, 1, 0, 0, 0, 0), (25, .if_icmp .ne 7, 3, 0, 32, 0, 0), (28, .iconst 0, 1, 0, 0, 0, 0), (29, .goto 4, 3, 0, 33, 0, 0), (32, .iconst (-1), 1, 0, 0, 0, 0), (33, .iastore, 1, 0, 0, 0, 0), (34, .iinc 5 1, 3, 0, 0, 0, 0), (37, .goto (-28), 3, 0, 9, 0, 0), (40, .iload_n 3, 1, 0, 0, 0, 0), (41, .istore 5, 2, 0, 0, 0, 0), (43, .iload 5, 2, 63, 0, 0, 0), (45, .aload_n 0, 1, 0, 0, 0, 0), (46, .getfield 142, 3, 0, 9, 4, 0), (49, .if_icmp .ge 17, 3, 0, 66, 0, 0), (52, .aload_n 0, 1, 0, 0, 0, 0), (53, .getfield 38, 3, 0, 9, 12, 1), (56, .iload 5, 2, 0, 0, 0, 0), (58, .iconst (-1), 1, 0, 0, 0, 0), (59, .iastore, 1, 0, 0, 0, 0), (60, .iinc 5 1, 3, 0, 0, 0, 0), (63, .goto (-20), 3, 0, 43, 0, 0), (66, .iload 4, 2, 0, 0, 0, 0), (68, .iconst 1, 1, 0, 0, 0, 0), (69, .isub, 1, 0, 0, 0, 0), (70, .istore 5, 2, 0, 0, 0, 0), (72, .iload 5, 2, 47, 0, 0, 0), (74, .iload_n 2, 1, 0, 0, 0, 0), (75, .if_icmp .lt 164, 3, 0, 239, 0, 0), (78, .aload_n 0, 1, 0, 0, 0, 0), (79, .getfield 78, 3, 0, 9, 27, 1), (82, .iload 5, 2, 0, 0, 0, 0), (84, .iaload, 1, 0, 0, 0, 0), (85, .iconst (-1), 1, 0, 0, 0, 0), (86, .if_icmp .ne 6, 3, 0, 92, 0, 0), (89, .goto 144, 3, 0, 233, 0, 0), (92, .aload_n 0, 1, 0, 0, 0, 0), (93, .getfield 60, 3, 0, 9, 21, 1), (96, .iload 5, 2, 0, 0, 0, 0), (98, .iaload, 1, 0, 0, 0, 0), (99, .iload_n 3, 1, 0, 0, 0, 0), (100, .if_icmp .lt 16, 3, 0, 116, 0, 0), (103, .aload_n 0, 1, 0, 0, 0, 0), (104, .getfield 38, 3, 0, 9, 12, 1), (107, .aload_n 0, 1, 0, 0, 0, 0), (108, .getfield 60, 3, 0, 9, 21, 1), (111, .iload 5, 2, 0, 0, 0, 0), (113, .iaload, 1, 0, 0, 0, 0), (114, .iconst 0, 1, 0, 0, 0, 0), (115, .iastore, 1, 0, 0, 0, 0), (116, .aload_n 0, 1, 0, 0, 0, 0), (117, .getfield 51, 3, 0, 9, 18, 1), (120, .iload 5, 2, 0, 0, 0, 0), (122, .iaload, 1, 0, 0, 0, 0), (123, .iconst 5, 1, 0, 0, 0, 0), (124, .if_icmp .ne 27, 3, 0, 151, 0, 0), (127, .aload_n 0, 1, 0, 0, 0, 0), (128, .getfield 54, 3, 0, 9, 19, 1), (131, .iload 5, 2, 0, 0, 0, 0), (133, .iaload, 1, 0, 0, 0, 0), (134, .iload_n 3, 1, 0, 0, 0, 0), (135, .if_icmp .lt 16, 3, 0, 151, 0, 0), (138, .aload_n 0, 1, 0, 0, 0, 0), (139, .getfield 38, 3, 0, 9, 12, 1), (142, .aload_n 0, 1, 0, 0, 0, 0), (143, .getfield 54, 3, 0, 9, 19, 1), (146, .iload 5, 2, 0, 0, 0, 0), (148, .iaload, 1, 0, 0, 0, 0), (149, .iconst 0, 1, 0, 0, 0, 0), (150, .iastore, 1, 0, 0, 0, 0), (151, .aload_n 0, 1, 47, 0, 0, 0), (152, .getfield 51, 3, 0, 9, 18, 1), (155, .iload 5, 2, 0, 0, 0, 0), (157, .iaload, 1, 0, 0, 0, 0), (158, .iconst 4, 1, 0, 0, 0, 0), (159, .if_icmp .ne 27, 3, 0, 186, 0, 0), (162, .aload_n 0, 1, 0, 0, 0, 0), (163, .getfield 54, 3, 0, 9, 19, 1), (166, .iload 5, 2, 0, 0, 0, 0), (168, .iaload, 1, 0, 0, 0, 0), (169, .iload_n 2, 1, 0, 0, 0, 0), (170, .if_icmp .lt 16, 3, 0, 186, 0, 0), (173, .aload_n 0, 1, 0, 0, 0, 0), (174, .getfield 78, 3, 0, 9, 27, 1), (177, .aload_n 0, 1, 0, 0, 0, 0), (178, .getfield 54, 3, 0, 9, 19, 1), (181, .iload 5, 2, 0, 0, 0, 0), (183, .iaload, 1, 0, 0, 0, 0), (184, .iconst 0, 1, 0, 0, 0, 0), (185, .iastore, 1, 0, 0, 0, 0), (186, .aload_n 0, 1, 47, 0, 0, 0), (187, .getfield 51, 3, 0, 9, 18, 1), (190, .iload 5, 2, 0, 0, 0, 0), (192, .iaload, 1, 0, 0, 0, 0), (193, .iconst 4, 1, 0, 0, 0, 0), (194, .if_icmp .lt 39, 3, 0, 233, 0, 0), (197, .aload_n 0, 1, 0, 0, 0, 0), (198, .getfield 51, 3, 0, 9, 18, 1), (201, .iload 5, 2, 0, 0, 0, 0), (203, .iaload, 1, 0, 0, 0, 0), (204, .bipush 6, 2, 0, 0, 0, 0), (206, .if_icmp .eq 27, 3, 0, 233, 0, 0), (209, .aload_n 0, 1, 0, 0, 0, 0), (210, .getfield 57, 3, 0, 9, 20, 1), (213, .iload 5, 2, 0, 0, 0, 0), (215, .iaload, 1, 0, 0, 0, 0), (216, .iload_n 2, 1, 0, 0, 0, 0), (217, .if_icmp .lt 16, 3, 0, 233, 0, 0), (220, .aload_n 0, 1, 0, 0, 0, 0), (221, .getfield 78, 3, 0, 9, 27, 1), (224, .aload_n 0, 1, 0, 0, 0, 0), (225, .getfield 57, 3, 0, 9, 20, 1), (228, .iload 5, 2, 0, 0, 0, 0), (230, .iaload, 1, 0, 0, 0, 0), (231, .iconst 0, 1, 0, 0, 0, 0), (232, .iastore, 1, 0, 0, 0, 0), (233, .iinc 5 (-1), 3, 0, 0, 0, 0), (236, .goto (-164), 3, 0, 72, 0, 0), (239, .aload_n 0, 1, 0, 0, 0, 0), (240, .getfield 142, 3, 0, 9, 4, 0), (243, .iconst 1, 1, 0, 0, 0, 0), (244, .isub, 1, 0, 0, 0, 0), (245, .istore 5, 2, 0, 0, 0, 0), (247, .iload 5, 2, 43, 0, 0, 0), (249, .iload_n 3, 1, 0, 0, 0, 0), (250, .if_icmp .lt 71, 3, 0, 321, 0, 0), (253, .aload_n 0, 1, 0, 0, 0, 0), (254, .getfield 38, 3, 0, 9, 12, 1), (257, .iload 5, 2, 0, 0, 0, 0), (259, .iaload, 1, 0, 0, 0, 0), (260, .iconst (-1), 1, 0, 0, 0, 0), (261, .if_icmp .ne 6, 3, 0, 267, 0, 0), (264, .goto 51, 3, 0, 315, 0, 0), (267, .aload_n 0, 1, 0, 0, 0, 0), (268, .getfield 20, 3, 0, 9, 6, 1), (271, .iload 5, 2, 0, 0, 0, 0), (273, .iaload, 1, 0, 0, 0, 0), (274, .iload_n 3, 1, 0, 0, 0, 0), (275, .if_icmp .lt 16, 3, 0, 291, 0, 0), (278, .aload_n 0, 1, 0, 0, 0, 0), (279, .getfield 38, 3, 0, 9, 12, 1), (282, .aload_n 0, 1, 0, 0, 0, 0), (283, .getfield 20, 3, 0, 9, 6, 1), (286, .iload 5, 2, 0, 0, 0, 0), (288, .iaload, 1, 0, 0, 0, 0), (289, .iconst 0, 1, 0, 0, 0, 0), (290, .iastore, 1, 0, 0, 0, 0), (291, .aload_n 0, 1, 0, 0, 0, 0), (292, .getfield 23, 3, 0, 9, 7, 1), (295, .iload 5, 2, 0, 0, 0, 0), (297, .iaload, 1, 0, 0, 0, 0), (298, .iload_n 3, 1, 0, 0, 0, 0), (299, .if_icmp .lt 16, 3, 0, 315, 0, 0), (302, .aload_n 0, 1, 0, 0, 0, 0), (303, .getfield 38, 3, 0, 9, 12, 1), (306, .aload_n 0, 1, 0, 0, 0, 0), (307, .getfield 23, 3, 0, 9, 7, 1), (310, .iload 5, 2, 0, 0, 0, 0), (312, .iaload, 1, 0, 0, 0, 0), (313, .iconst 0, 1, 0, 0, 0, 0), (314, .iastore, 1, 0, 0, 0, 0), (315, .iinc 5 (-1), 3, 0, 0, 0, 0), (318, .goto (-71), 3, 0, 247, 0, 0), (321, .return_, 1, 1, 0, 0, 0)]
def am_m199 : am_M := (yX9_mark, cX9_mark, 6, none, am_r199)
def am_r200 : List am_I := [(0, .aload_n 0, 1, 0, 0, 0, 0), (1, .iload_n 1, 1, 0, 0, 0, 0), (2, .aload_n 0, 1, 0, 0, 0, 0), (3, .getfield 229, 3, 0, 9, 32, 0), (6, .invokestatic 220, 3, 0, 123, 2, 13), (9, .ifCond .eq 7, 3, 0, 16, 0, 0), (12, .iconst 1, 1, 0, 0, 0, 0), (13, .goto 34, 3, 0, 47, 0, 0), (16, .aload_n 0, 1, 0, 0, 0, 0), (17, .getfield 93, 3, 0, 9, 37, 1), (20, .iload_n 1, 1, 0, 0, 0, 0), (21, .iaload, 1, 0, 0, 0, 0), (22, .ifCond .le 7, 3, 0, 29, 0, 0), (25, .iconst 2, 1, 0, 0, 0, 0), (26, .goto 21, 3, 0, 47, 0, 0), (29, .aload_n 0, 1, 0, 0, 0, 0), (30, .iload_n 2, 1, 0, 0, 0, 0), (31, .invokevirtual 384, 3, 0, 196, 1, 912), (34, .ifCond .eq 8, 3, 0, 42, 0, 0), (37, .iload_n 1, 1, 0, 0, 0, 0), (38, .iload_n 2, 1, 0, 0, 0, 0), (39, .if_icmp .ge 7, 3, 0, 46, 0, 0), (42, .iconst 3, 1, 0, 0, 0, 0), (43, .goto 4, 3, 0, 47, 0, 0), (46, .iconst 0, 1, 0, 0, 0, 0), (47, .putfield 148, 3, 9, 9, 0, 0), (50, .aload_n 0, 1, 0, 0, 0, 0), (51, .getfield 148, 3, 0, 9, 0, 0), (54, .ifCond .le 4, 3, 0, 58, 0, 0), (57, .return_, 1, 1, 0, 0, 0), (58, .aload_n 0, 1, 0, 0, 0, 0), (59, .getfield 87, 3, 0, 9, 35, 1), (62, .iload_n 1, 1, 0, 0, 0, 0), (63, .iaload, 1, 0, 0, 0, 0), (64, .istore_n 3, 1, 0, 0, 0, 0), (65, .iload_n 2, 1, 0, 0, 0, 0), (66, .ifCond .le 14, 3, 0, 80, 0, 0), (69, .aload_n 0, 1, 0, 0, 0, 0), (70, .getfield 99, 3, 0, 9, 39, 1), (73, .iload_n 2, 1, 0, 0, 0, 0), (74, .iconst 1, 1, 0, 0, 0, 0), (75, .isub, 1, 0, 0, 0, 0), (76, .iaload, 1, 0, 0, 0, 0), (77, .goto 4, 3, 0, 81, 0, 0), (80, .iconst 0, 1, 0, 0, 0, 0), (81, .istore 4, 2, 0, 0, 0, 0), (83, .iload_n 2, 1, 0, 0, 0, 0), (84, .ifCond .le 14, 3, 0, 98, 0, 0), (87, .aload_n 0, 1, 0, 0, 0, 0), (88, .getfield 102, 3, 0, 9, 40, 1), (91, .iload_n 2, 1, 0, 0, 0, 0), (92, .iconst 1, 1, 0, 0, 0, 0), (93, .isub, 1, 0, 0, 0, 0), (94, .iaload, 1, 0, 0, 0, 0), (95, .goto 7, 3, 0, 102, 0, 0), (98, .aload_n 0, 1, 0, 0, 0, 0), (99, .getfield 145, 3, 0, 9, 44, 0), (102, .istore 5, 2, 31, 0, 0, 0), (104, .aload_n 0, 1, 0, 0, 0, 0), (105, .iload_n 3, 1, 0, 0, 0, 0), (106, .iload 4, 2, 0, 0, 0, 0), (108, .iload 5, 2, 0, 0, 0, 0), (110, .invokevirtual 390, 3, 0, 199, 3, 902), (113, .aload_n 0, 1, 0, 0, 0, 0), (114, .getfield 174, 3, 0, 9, 17, 0), (117, .istore 6, 2, 0, 0, 0, 0), (119, .aload_n 0, 1, 0, 0, 0, 0), (120, .getfield 142, 3, 0, 9, 4, 0), (123, .istore 7, 2, 0, 0, 0, 0), (125, .aload_n 0, 1, 0, 0, 0, 0), (126, .iload_n 2, 1, 0, 0, 0, 0), (127, .invokevirtual 387, 3, 0, 197, 1, 902), (130, .aload_n 0, 1, 0, 0, 0, 0), (131, .iconst 0, 1, 0, 0, 0, 0), (132, .putfield 151, 3, 0, 9, 45, 2), (135, .iload 5, 2, 0, 0, 0, 0), (137, .istore 8, 2, 0, 0, 0, 0), (139, .iload 8, 2, 507, 0, 0, 0), (141, .iload 7, 2, 0, 0, 0, 0), (143, .if_icmp .ge 109, 3, 0, 252, 0, 0), (146, .aload_n 0, 1, 0, 0, 0, 0), (147, .getfield 38, 3, 0, 9, 12, 1), (150, .iload 8, 2, 0, 0, 0, 0), (152, .iaload, 1, 0, 0, 0, 0), (153, .iconst (-1), 1, 0, 0, 0, 0), (154, .if_icmp .ne 6, 3, 0, 160, 0, 0), (157, .goto 89, 3, 0, 246, 0, 0), (160, .aload_n 0, 1, 0, 0, 0, 0), (161, .getfield 38, 3, 0, 9, 12, 1), (164, .iload 8, 2, 0, 0, 0, 0), (166, .aload_n 0, 1, 0, 0, 0, 0), (167, .aload_n 0, 1, 0, 0, 0, 0), (168, .getfield 17, 3, 0, 9, 5, 1), (171, .iload 8, 2, 0, 0, 0, 0), (173, .iaload, 1, 0, 0, 0, 0), (174, .aload_n 0, 1, 0, 0, 0, 0), (175, .getfield 20, 3, 0, 9, 6, 1), (178, .iload 8, 2, 0, 0, 0, 0), (180, .iaload, 1, 0, 0, 0, 0), (181, .iload 5, 2, 0, 0, 0, 0), (183, .if_icmp .lt 18, 3, 0, 201, 0, 0), (186, .aload_n 0, 1, 0, 0, 0, 0), (187, .getfield 38, 3, 0, 9, 12, 1), (190, .aload_n 0, 1, 0, 0, 0, 0), (191, .getfield 20, 3, 0, 9, 6, 1), (194, .iload 8, 2, 0, 0, 0, 0), (196, .iaload, 1, 0, 0, 0, 0), (197, .iaload, 1, 0, 0, 0, 0), (198, .goto 10, 3, 0, 208, 0, 0), (201, .aload_n 0, 1, 0, 0, 0, 0), (202, .getfield 20, 3, 0, 9, 6, 1), (205, .iload 8, 2, 0, 0, 0, 0), (207, .iaload, 1, 0, 0, 0, 0), (208, .aload_n 0, 1, 0, 0, 0, 0), (209, .getfield 23, 3, 0, 9, 7, 1), (212, .iload 8, 2, 0, 0, 0, 0), (214, .iaload, 1, 0, 0, 0, 0), (215, .iload 5, 2, 0, 0, 0, 0), (217, .if_icmp .lt 18, 3, 0, 235, 0, 0), (220, .aload_n 0, 1, 0, 0, 0, 0), (221, .getfield 38, 3, 0, 9, 12, 1), (224, .aload_n 0, 1, 0, 0, 0, 0), (225, .getfield 23, 3, 0, 9, 7, 1), (228, .iload 8, 2, 0, 0, 0, 0), (230, .iaload, 1, 0, 0, 0, 0), (231, .iaload, 1, 0, 0, 0, 0), (232, .goto 10, 3, 0, 242, 0, 0), (235, .aload_n 0, 1, 0, 0, 0, 0), (236, .getfield 23, 3, 0, 9, 7, 1), (239, .iload 8, 2, 0, 0, 0, 0), (241, .iaload, 1, 0, 0, 0, 0), (242, .invokevirtual 127, 3, 0, 126, 3, 912), (245, .iastore, 1, 0, 0, 0, 0), (246, .iinc 8 1, 3, 0, 0, 0, 0), (249, .goto (-110), 3, 0, 139, 0, 0), (252, .iload 4, 2, 0, 0, 0, 0), (254, .istore 8, 2, 0, 0, 0, 0), (256, .iload 8, 2, 379, 0, 0, 0), (258, .iload 6, 2, 0, 0, 0, 0), (260, .if_icmp .ge 204, 3, 0, 464, 0, 0), (263, .aload_n 0, 1, 0, 0, 0, 0), (264, .getfield 78, 3, 0, 9, 27, 1), (267, .iload 8, 2, 0, 0, 0, 0), (269, .iaload, 1, 0, 0, 0, 0), (270, .iconst (-1), 1, 0, 0, 0, 0), (271, .if_icmp .ne 6, 3, 0, 277, 0, 0), (274, .goto 184, 3, 0, 458, 0, 0), (277, .aload_n 0, 1, 0, 0, 0, 0), (278, .getfield 54, 3, 0, 9, 19, 1), (281, .iload 8, 2, 0, 0, 0, 0), (283, .iaload, 1, 0, 0, 0, 0), (284, .istore 9, 2, 0, 0, 0, 0), (286, .aload_n 0, 1, 0, 0, 0, 0), (287, .getfield 51, 3, 0, 9, 18, 1), (290, .iload 8, 2, 0, 0, 0, 0), (292, .iaload, 1, 0, 0, 0, 0), (293, .iconst 4, 1, 0, 0, 0, 0), (294, .if_icmp .ne 19, 3, 0, 313, 0, 0), (297, .iload 9, 2, 0, 0, 0, 0), (299, .iload 4, 2, 0, 0, 0, 0), (301, .if_icmp .lt 12, 3, 0, 313, 0, 0), (304, .aload_n 0, 1, 0, 0, 0, 0), (305, .getfield 78, 3, 0, 9, 27, 1), (308, .iload 9, 2, 0, 0, 0, 0), (310, .iaload, 1, 0, 0, 0, 0), (311, .istore 9, 2, 0, 0, 0, 0), (313, .aload_n 0, 1, 0, 0, 0, 0), (314, .getfield 51, 3, 0, 9, 18, 1), (317, .iload 8, 2, 0, 0, 0, 0), (319, .iaload, 1, 0, 0, 0, 0), (320, .iconst 5, 1, 0, 0, 0, 0), (321, .if_icmp .ne 19, 3, 0, 340, 0, 0), (324, .iload 9, 2, 0, 0, 0, 0), (326, .iload 5, 2, 0, 0, 0, 0), (328, .if_icmp .lt 12, 3, 0, 340, 0, 0), (331, .aload_n 0, 1, 0, 0, 0, 0), (332, .getfield 38, 3, 0, 9, 12, 1), (335, .iload 9, 2, 0, 0, 0, 0), (337, .iaload, 1, 0, 0, 0, 0), (338, .istore 9, 2, 0, 0, 0, 0), (340, .aload_n 0, 1, 891, 0, 0, 0), (341, .getfield 51, 3, 0, 9, 18, 1), (344, .iload 8, 2, 0, 0, 0, 0), (346, .iaload, 1, 0, 0, 0, 0), (347, .iconst 4, 1, 0, 0, 0, 0), (348, .if_icmp .eq 14, 3, 0, 362, 0, 0), (351, .aload_n 0, 1, 0, 0, 0, 0), (352, .getfield 51, 3, 0, 9, 18, 1), (355, .iload 8, 2, 0, 0, 0, 0), (357, .iaload, 1, 0, 0, 0, 0), (358, .iconst 5, 1, 0, 0, 0, 0), (359, .if_icmp .ne 40, 3, 0, 399, 0, 0), (362, .aload_n 0, 1, 0, 0, 0, 0), (363, .getfield 57, 3, 0, 9, 20, 1), (366, .iload 8, 2, 0, 0, 0, 0), (368, .iaload, 1, 0, 0, 0, 0), (369, .iload 4, 2, 0, 0, 0, 0), (371, .if_icmp .lt 18, 3, 0, 389, 0, 0), (374, .aload_n 0, 1, 0, 0, 0, 0), (375, .getfield 78, 3, 0, 9, 27, 1), (378, .aload_n 0, 1, 0, 0, 0, 0), (379, .getfield 57, 3, 0, 9, 20, 1), (382, .iload 8, 2, 0, 0, 0, 0), (384, .iaload, 1, 0, 0, 0, 0), (385, .iaload, 1, 0, 0, 0, 0), (386, .goto 14, 3, 0, 400, 0, 0), (389, .aload_n 0, 1, 0, 0, 0, 0), (390, .getfield 57, 3, 0, 9, 20, 1), (393, .iload 8, 2, 0, 0, 0, 0), (395, .iaload, 1, 0, 0, 0, 0), (396, .goto 4, 3, 0, 400, 0, 0), (399, .iconst 0, 1, 0, 0, 0, 0), (400, .istore 10, 2, 891, 0, 0, 0), (402, .aload_n 0, 1, 0, 0, 0, 0), (403, .getfield 78, 3, 0, 9, 27, 1), (406, .iload 8, 2, 0, 0, 0, 0), (408, .aload_n 0, 1, 0, 0, 0, 0), (409, .aload_n 0, 1, 0, 0, 0, 0), (410, .getfield 51, 3, 0, 9, 18, 1), (413, .iload 8, 2, 0, 0, 0, 0), (415, .iaload, 1, 0, 0, 0, 0), (416, .iload 9, 2, 0, 0, 0, 0), (418, .iload 10, 2, 0, 0, 0, 0), (420, .aload_n 0, 1, 0, 0, 0, 0), (421, .getfield 60, 3, 0, 9, 21, 1), (424, .iload 8, 2, 0, 0, 0, 0), (426, .iaload, 1, 0, 0, 0, 0), (427, .iload 5, 2, 0, 0, 0, 0), (429, .if_icmp .lt 18, 3, 0, 447, 0, 0), (432, .aload_n 0, 1, 0, 0, 0, 0), (433, .getfield 38, 3, 0, 9, 12, 1), (436, .aload_n 0, 1, 0, 0, 0, 0), (437, .getfield 60, 3, 0, 9, 21, 1), (440, .iload 8, 2, 0, 0, 0, 0), (442, .iaload, 1, 0, 0, 0, 0), (443, .iaload, 1, 0, 0, 0, 0), (444, .goto 10, 3, 0, 454, 0, 0), (447, .aload_n 0, 1, 0, 0, 0, 0), (448, .getfield 60, 3, 0, 9, 21, 1), (451, .iload 8, 2, 0, 0, 0, 0), (453, .iaload, 1, 0, 0, 0, 0), (454, .invokevirtual 177, 3, 0, 131, 4, 912), (457, .iastore, 1, 0, 0, 0, 0), (458, .iinc 8 1, 3, 0, 0, 0, 0), (461, .goto (-205), 3, 0, 256, 0, 0), (464, .aload_n 0, 1, 0, 0, 0, 0), (465, .invokevirtual 258, 3, 0, 158, 0, 902), (468, .aload_n 0, 1, 0, 0, 0, 0), (469, .iload_n 3, 1, 0, 0, 0, 0), (470, .iload 4, 2, 0, 0, 0, 0), (472, .if_icmp .lt 12, 3, 0, 484, 0, 0), (475, .aload_n 0, 1, 0, 0, 0, 0), (476, .getfield 78, 3, 0, 9, 27, 1), (479, .iload_n 3, 1, 0, 0, 0, 0), (480, .iaload, 1, 0, 0, 0, 0), (481, .goto 4, 3, 0, 485, 0, 0), (484, .iload_n 3, 1, 0, 0, 0, 0), (485, .bipush 23, 2, 0, 0, 0, 0), (487, .invokevirtual 296, 3, 0, 159, 2, 902), (490, .return_, 1, 1, 0, 0, 0)]
def am_m200 : am_M := (yX9_keep, cX9_keep, 11, none, am_r200)
def am_Ms : List am_M := [am_m0, am_m1, am_m2, am_m3, am_m4, am_m5, am_m6, am_m7, am_m8, am_m9, am_m10, am_m11, am_m12, am_m13, am_m14, am_m15, am_m16, am_m17, am_m18, am_m19, am_m20, am_m21, am_m22, am_m23, am_m24, am_m25, am_m26, am_m27, am_m28, am_m29, am_m30, am_m31, am_m32, am_m33, am_m34, am_m35, am_m36, am_m37, am_m38, am_m39, am_m40, am_m41, am_m42, am_m43, am_m44, am_m45, am_m46, am_m47, am_m48, am_m49, am_m50, am_m51, am_m52, am_m53, am_m54, am_m55, am_m56, am_m57, am_m58, am_m59, am_m60, am_m61, am_m62, am_m63, am_m64, am_m65, am_m66, am_m67, am_m68, am_m69, am_m70, am_m71, am_m72, am_m73, am_m74, am_m75, am_m76, am_m77, am_m78, am_m79, am_m80, am_m81, am_m82, am_m83, am_m84, am_m85, am_m86, am_m87, am_m88, am_m89, am_m90, am_m91, am_m92, am_m93, am_m94, am_m95, am_m96, am_m97, am_m98, am_m99, am_m100, am_m101, am_m102, am_m103, am_m104, am_m105, am_m106, am_m107, am_m108, am_m109, am_m110, am_m111, am_m112, am_m113, am_m114, am_m115, am_m116, am_m117, am_m118, am_m119, am_m120, am_m121, am_m122, am_m123, am_m124, am_m125, am_m126, am_m127, am_m128, am_m129, am_m130, am_m131, am_m132, am_m133, am_m134, am_m135, am_m136, am_m137, am_m138, am_m139, am_m140, am_m141, am_m142, am_m143, am_m144, am_m145, am_m146, am_m147, am_m148, am_m149, am_m150, am_m151, am_m152, am_m153, am_m154, am_m155, am_m156, am_m157, am_m158, am_m159, am_m160, am_m161, am_m162, am_m163, am_m164, am_m165, am_m166, am_m167, am_m168, am_m169, am_m170, am_m171, am_m172, am_m173, am_m174, am_m175, am_m176, am_m177, am_m178, am_m179, am_m180, am_m181, am_m182, am_m183, am_m184, am_m185, am_m186, am_m187, am_m188, am_m189, am_m190, am_m191, am_m192, am_m193, am_m194, am_m195, am_m196, am_m197, am_m198, am_m199, am_m200]
def am_tb : Nat → Option am_M := fun k => am_Ms[k]?
def am_hs : List (Nat × Bool) := [(2, true), (2, true), (0, false), (3, false), (4, false), (4, false), (3, true), (1, false), (1, false), (1, false), (2, false), (0, false), (1, false), (0, false), (0, false), (1, false), (2, false), (0, false), (1, false), (1, false), (2, false), (3, false), (1, false), (1, false), (1, false), (1, false), (1, false), (0, false), (0, false), (2, false), (2, false), (1, false), (1, false), (1, false), (1, false), (1, false), (3, false), (2, false), (2, false), (2, false), (2, false), (2, false), (1, false), (4, false), (0, false), (3, false), (2, false), (2, false), (4, false), (1, false), (1, false), (2, false), (1, false), (2, false), (2, false), (2, false), (5, false), (0, false), (0, false), (2, false), (4, false), (2, false), (1, false), (1, false), (4, false), (2, false), (2, false), (3, false), (1, false), (1, false), (1, false), (3, false), (1, false), (1, false), (2, false), (0, false), (0, false), (0, false), (5, false), (1, false), (2, false), (2, false), (2, false), (1, false), (1, false), (2, false), (2, false), (3, false), (3, false), (4, false), (4, true), (1, false), (3, false), (1, false), (2, false), (1, false), (2, false), (1, false), (2, false), (2, false), (3, false), (3, false), (3, false), (3, false), (1, false), (1, false), (0, false), (1, false), (0, false), (0, false), (0, false), (1, false), (3, false), (4, false), (1, false), (2, false), (1, false), (1, false), (1, true), (2, true), (1, true), (0, false), (0, false), (2, true), (1, false), (4, true), (3, false), (0, false), (2, false), (2, false), (1, false), (4, false), (2, false), (2, false), (2, false), (2, false), (2, false), (3, false), (2, false), (3, false), (3, false), (1, false), (2, false), (3, false), (2, false), (1, false), (1, false), (0, false), (0, false), (0, false), (0, false), (0, false), (1, false), (1, false), (1, false), (1, false), (1, false), (2, false), (0, false), (2, false), (1, false), (2, false), (1, false), (2, false), (3, false), (2, false), (0, false), (0, false), (1, false), (1, false), (1, false), (1, false), (1, false), (2, false), (0, false), (2, false), (2, false), (2, false), (1, false), (2, false), (1, false), (0, false), (0, false), (0, false), (1, false), (1, false), (1, false), (1, false), (0, false), (0, false), (0, false), (1, false), (2, false), (3, false), (3, false), (4, false), (1, false), (1, false), (1, false), (3, false), (2, false)]
def am_hd : am_Hd := fun k => am_hs[k]?
end
section
/-! every method of the table can be called -/
theorem am_c0 : am_ckc am_m0 2 true (1, 36) (1, 3) (1, 35) (0, 0) = true := by decide +kernel
theorem am_c1 : am_ckc am_m1 2 true (1, 64) (1, 3) (1, 63) (0, 0) = true := by decide +kernel
theorem am_c2 : am_ckc am_m2 0 false (1, 32) (1, 2) (1, 31) (0, 0) = true := by decide +kernel
theorem am_c3 : am_ckc am_m3 3 false (1, 40) (1, 2) (1, 38) (1, 39) = true := by decide +kernel
theorem am_c4 : am_ckc am_m4 4 false (1, 51) (1, 2) (1, 50) (0, 0) = true := by decide +kernel
theorem am_c5 : am_ckc am_m5 4 false (1, 55) (1, 2) (1, 54) (0, 1) = true := by decide +kernel
theorem am_c6 : am_ckc am_m6 3 true (1, 43) (1, 2) (1, 42) (0, 0) = true := by decide +kernel
theorem am_c7 : am_ckc am_m7 1 false (4, 71) (1, 2) (4, 69) (4, 70) = true := by decide +kernel
theorem am_c8 : am_ckc am_m8 1 false (2, 223) (1, 2) (2, 221) (2, 222) = true := by decide +kernel
theorem am_c9 : am_ckc am_m9 1 false (4, 8) (1, 2) (4, 6) (4, 7) = true := by decide +kernel
theorem am_c10 : am_ckc am_m10 2 false (4, 188) (1, 2) (4, 186) (4, 187) = true := by decide +kernel
theorem am_c11 : am_ckc am_m11 0 false (2, 207) (1, 2) (2, 205) (2, 206) = true := by decide +kernel
theorem am_c12 : am_ckc am_m12 1 false (3, 167) (1, 2) (3, 165) (3, 166) = true := by decide +kernel
theorem am_c13 : am_ckc am_m13 0 false (3, 171) (1, 2) (3, 169) (3, 170) = true := by decide +kernel
theorem am_c14 : am_ckc am_m14 0 false (3, 214) (1, 2) (3, 212) (3, 213) = true := by decide +kernel
theorem am_c15 : am_ckc am_m15 1 false (4, 0) (1, 2) (3, 238) (3, 239) = true := by decide +kernel
theorem am_c16 : am_ckc am_m16 2 false (3, 181) (1, 2) (3, 179) (3, 180) = true := by decide +kernel
theorem am_c17 : am_ckc am_m17 0 false (3, 185) (1, 2) (3, 183) (3, 184) = true := by decide +kernel
theorem am_c18 : am_ckc am_m18 1 false (5, 11) (1, 2) (5, 9) (5, 10) = true := by decide +kernel
theorem am_c19 : am_ckc am_m19 1 false (3, 189) (1, 2) (3, 188) (0, 13) = true := by decide +kernel
theorem am_c20 : am_ckc am_m20 2 false (2, 203) (1, 2) (2, 201) (2, 202) = true := by decide +kernel
theorem am_c21 : am_ckc am_m21 3 false (2, 211) (1, 2) (2, 210) (0, 8) = true := by decide +kernel
theorem am_c22 : am_ckc am_m22 1 false (1, 120) (1, 6) (1, 119) (0, 0) = true := by decide +kernel
theorem am_c23 : am_ckc am_m23 1 false (2, 147) (1, 6) (2, 145) (2, 146) = true := by decide +kernel
theorem am_c24 : am_ckc am_m24 1 false (2, 199) (1, 6) (2, 197) (2, 198) = true := by decide +kernel
theorem am_c25 : am_ckc am_m25 1 false (3, 236) (1, 6) (3, 234) (3, 235) = true := by decide +kernel
theorem am_c26 : am_ckc am_m26 1 false (3, 201) (1, 6) (3, 199) (3, 200) = true := by decide +kernel
theorem am_c27 : am_ckc am_m27 0 false (2, 137) (1, 6) (2, 135) (2, 136) = true := by decide +kernel
theorem am_c28 : am_ckc am_m28 0 false (4, 76) (1, 6) (4, 74) (4, 75) = true := by decide +kernel
theorem am_c29 : am_ckc am_m29 2 false (1, 149) (1, 7) (1, 148) (0, 0) = true := by decide +kernel
theorem am_c30 : am_ckc am_m30 2 false (4, 220) (1, 7) (4, 218) (4, 219) = true := by decide +kernel
theorem am_c31 : am_ckc am_m31 1 false (2, 173) (1, 7) (2, 171) (2, 172) = true := by decide +kernel
theorem am_c32 : am_ckc am_m32 1 false (2, 219) (1, 7) (2, 217) (2, 218) = true := by decide +kernel
theorem am_c33 : am_ckc am_m33 1 false (3, 3) (1, 7) (3, 1) (3, 2) = true := by decide +kernel
theorem am_c34 : am_ckc am_m34 1 false (3, 120) (1, 7) (3, 118) (3, 119) = true := by decide +kernel
theorem am_c35 : am_ckc am_m35 1 false (2, 155) (1, 7) (2, 153) (2, 154) = true := by decide +kernel
theorem am_c36 : am_ckc am_m36 3 false (2, 169) (1, 7) (2, 167) (2, 168) = true := by decide +kernel
theorem am_c37 : am_ckc am_m37 2 false (2, 177) (1, 7) (2, 175) (2, 176) = true := by decide +kernel
theorem am_c38 : am_ckc am_m38 2 false (2, 195) (1, 7) (2, 193) (2, 194) = true := by decide +kernel
theorem am_c39 : am_ckc am_m39 2 false (2, 215) (1, 7) (2, 213) (2, 214) = true := by decide +kernel
theorem am_c40 : am_ckc am_m40 2 false (2, 227) (1, 7) (2, 225) (2, 226) = true := by decide +kernel
theorem am_c41 : am_ckc am_m41 2 false (2, 235) (1, 7) (2, 233) (2, 234) = true := by decide +kernel
theorem am_c42 : am_ckc am_m42 1 false (2, 164) (1, 7) (2, 163) (0, 4) = true := by decide +kernel
theorem am_c43 : am_ckc am_m43 4 false (2, 181) (1, 7) (2, 180) (0, 5) = true := by decide +kernel
theorem am_c44 : am_ckc am_m44 0 false (2, 187) (1, 7) (2, 186) (0, 6) = true := by decide +kernel
theorem am_c45 : am_ckc am_m45 3 false (2, 191) (1, 7) (2, 190) (0, 7) = true := by decide +kernel
theorem am_c46 : am_ckc am_m46 2 false (2, 231) (1, 7) (2, 230) (0, 9) = true := by decide +kernel
theorem am_c47 : am_ckc am_m47 2 false (3, 17) (1, 7) (3, 15) (3, 16) = true := by decide +kernel
theorem am_c48 : am_ckc am_m48 4 false (3, 60) (1, 13) (3, 59) (0, 0) = true := by decide +kernel
theorem am_c49 : am_ckc am_m49 1 false (1, 205) (1, 8) (1, 204) (0, 0) = true := by decide +kernel
theorem am_c50 : am_ckc am_m50 1 false (4, 67) (1, 8) (4, 65) (4, 66) = true := by decide +kernel
theorem am_c51 : am_ckc am_m51 2 false (3, 12) (1, 8) (3, 10) (3, 11) = true := by decide +kernel
theorem am_c52 : am_ckc am_m52 1 false (3, 7) (1, 8) (3, 5) (3, 6) = true := by decide +kernel
theorem am_c53 : am_ckc am_m53 2 false (4, 4) (1, 8) (4, 2) (4, 3) = true := by decide +kernel
theorem am_c54 : am_ckc am_m54 2 false (3, 96) (1, 8) (3, 94) (3, 95) = true := by decide +kernel
theorem am_c55 : am_ckc am_m55 2 false (3, 193) (1, 8) (3, 191) (3, 192) = true := by decide +kernel
theorem am_c56 : am_ckc am_m56 5 false (3, 129) (1, 8) (3, 127) (3, 128) = true := by decide +kernel
theorem am_c57 : am_ckc am_m57 0 false (3, 105) (1, 8) (3, 103) (3, 104) = true := by decide +kernel
theorem am_c58 : am_ckc am_m58 0 false (3, 26) (1, 8) (3, 24) (3, 25) = true := by decide +kernel
theorem am_c59 : am_ckc am_m59 2 false (3, 30) (1, 8) (3, 29) (0, 10) = true := by decide +kernel
theorem am_c60 : am_ckc am_m60 4 false (3, 82) (1, 8) (3, 80) (3, 81) = true := by decide +kernel
theorem am_c61 : am_ckc am_m61 2 false (3, 91) (1, 8) (3, 89) (3, 90) = true := by decide +kernel
theorem am_c62 : am_ckc am_m62 1 false (3, 57) (1, 8) (3, 55) (3, 56) = true := by decide +kernel
theorem am_c63 : am_ckc am_m63 1 false (3, 51) (1, 8) (3, 49) (3, 50) = true := by decide +kernel
theorem am_c64 : am_ckc am_m64 4 false (3, 124) (1, 8) (3, 122) (3, 123) = true := by decide +kernel
theorem am_c65 : am_ckc am_m65 2 false (3, 205) (1, 8) (3, 203) (3, 204) = true := by decide +kernel
theorem am_c66 : am_ckc am_m66 2 false (3, 163) (1, 8) (3, 161) (3, 162) = true := by decide +kernel
theorem am_c67 : am_ckc am_m67 3 false (2, 9) (1, 9) (2, 8) (0, 0) = true := by decide +kernel
theorem am_c68 : am_ckc am_m68 1 false (3, 43) (1, 9) (3, 41) (3, 42) = true := by decide +kernel
theorem am_c69 : am_ckc am_m69 1 false (3, 47) (1, 9) (3, 45) (3, 46) = true := by decide +kernel
theorem am_c70 : am_ckc am_m70 1 false (3, 227) (1, 9) (3, 225) (3, 226) = true := by decide +kernel
theorem am_c71 : am_ckc am_m71 3 false (4, 173) (1, 9) (4, 171) (4, 172) = true := by decide +kernel
theorem am_c72 : am_ckc am_m72 1 false (4, 200) (1, 9) (4, 198) (4, 199) = true := by decide +kernel
theorem am_c73 : am_ckc am_m73 1 false (4, 63) (1, 9) (4, 61) (4, 62) = true := by decide +kernel
theorem am_c74 : am_ckc am_m74 2 false (3, 86) (1, 9) (3, 84) (3, 85) = true := by decide +kernel
theorem am_c75 : am_ckc am_m75 0 false (3, 100) (1, 9) (3, 98) (3, 99) = true := by decide +kernel
theorem am_c76 : am_ckc am_m76 0 false (3, 22) (1, 9) (3, 20) (3, 21) = true := by decide +kernel
theorem am_c77 : am_ckc am_m77 0 false (3, 218) (1, 9) (3, 216) (3, 217) = true := by decide +kernel
theorem am_c78 : am_ckc am_m78 5 false (2, 49) (1, 10) (2, 48) (0, 0) = true := by decide +kernel
theorem am_c79 : am_ckc am_m79 1 false (2, 239) (1, 10) (2, 237) (2, 238) = true := by decide +kernel
theorem am_c80 : am_ckc am_m80 2 false (3, 35) (1, 10) (3, 33) (3, 34) = true := by decide +kernel
theorem am_c81 : am_ckc am_m81 2 false (3, 110) (1, 10) (3, 108) (3, 109) = true := by decide +kernel
theorem am_c82 : am_ckc am_m82 2 false (3, 116) (1, 10) (3, 114) (3, 115) = true := by decide +kernel
theorem am_c83 : am_ckc am_m83 1 false (3, 133) (1, 10) (3, 131) (3, 132) = true := by decide +kernel
theorem am_c84 : am_ckc am_m84 1 false (3, 137) (1, 10) (3, 135) (3, 136) = true := by decide +kernel
theorem am_c85 : am_ckc am_m85 2 false (3, 142) (1, 10) (3, 140) (3, 141) = true := by decide +kernel
theorem am_c86 : am_ckc am_m86 2 false (3, 146) (1, 10) (3, 144) (3, 145) = true := by decide +kernel
theorem am_c87 : am_ckc am_m87 3 false (3, 150) (1, 10) (3, 148) (3, 149) = true := by decide +kernel
theorem am_c88 : am_ckc am_m88 3 false (3, 154) (1, 10) (3, 153) (0, 12) = true := by decide +kernel
theorem am_c89 : am_ckc am_m89 4 false (3, 158) (1, 10) (3, 156) (3, 157) = true := by decide +kernel
theorem am_c90 : am_ckc am_m90 4 true (3, 177) (1, 10) (3, 176) (0, 0) = true := by decide +kernel
theorem am_c91 : am_ckc am_m91 1 false (3, 197) (1, 10) (3, 195) (3, 196) = true := by decide +kernel
theorem am_c92 : am_ckc am_m92 3 false (3, 209) (1, 10) (3, 208) (0, 14) = true := by decide +kernel
theorem am_c93 : am_ckc am_m93 1 false (3, 223) (1, 10) (3, 221) (3, 222) = true := by decide +kernel
theorem am_c94 : am_ckc am_m94 2 false (3, 232) (1, 10) (3, 231) (0, 15) = true := by decide +kernel
theorem am_c95 : am_ckc am_m95 1 false (3, 39) (1, 10) (3, 38) (0, 11) = true := by decide +kernel
theorem am_c96 : am_ckc am_m96 2 false (2, 71) (1, 11) (2, 70) (0, 0) = true := by decide +kernel
theorem am_c97 : am_ckc am_m97 1 false (4, 13) (1, 11) (4, 11) (4, 12) = true := by decide +kernel
theorem am_c98 : am_ckc am_m98 2 false (4, 23) (1, 11) (4, 21) (4, 22) = true := by decide +kernel
theorem am_c99 : am_ckc am_m99 2 false (4, 56) (1, 11) (4, 55) (0, 22) = true := by decide +kernel
theorem am_c100 : am_ckc am_m100 3 false (4, 38) (1, 11) (4, 37) (0, 18) = true := by decide +kernel
theorem am_c101 : am_ckc am_m101 3 false (4, 48) (1, 11) (4, 47) (0, 20) = true := by decide +kernel
theorem am_c102 : am_ckc am_m102 3 false (4, 52) (1, 11) (4, 51) (0, 21) = true := by decide +kernel
theorem am_c103 : am_ckc am_m103 3 false (4, 43) (1, 11) (4, 42) (0, 19) = true := by decide +kernel
theorem am_c104 : am_ckc am_m104 1 false (4, 31) (1, 11) (4, 30) (0, 17) = true := by decide +kernel
theorem am_c105 : am_ckc am_m105 1 false (4, 27) (1, 11) (4, 26) (0, 16) = true := by decide +kernel
theorem am_c106 : am_ckc am_m106 0 false (1, 24) (1, 1) (1, 23) (0, 0) = true := by decide +kernel
theorem am_c107 : am_ckc am_m107 1 false (2, 125) (1, 1) (2, 123) (2, 124) = true := by decide +kernel
theorem am_c108 : am_ckc am_m108 0 false (2, 133) (1, 1) (2, 131) (2, 132) = true := by decide +kernel
theorem am_c109 : am_ckc am_m109 0 false (4, 80) (1, 1) (4, 78) (4, 79) = true := by decide +kernel
theorem am_c110 : am_ckc am_m110 0 false (4, 84) (1, 1) (4, 82) (4, 83) = true := by decide +kernel
theorem am_c111 : am_ckc am_m111 1 false (4, 92) (1, 1) (4, 90) (4, 91) = true := by decide +kernel
theorem am_c112 : am_ckc am_m112 3 false (4, 169) (1, 1) (4, 167) (4, 168) = true := by decide +kernel
theorem am_c113 : am_ckc am_m113 4 false (4, 183) (1, 1) (4, 181) (4, 182) = true := by decide +kernel
theorem am_c114 : am_ckc am_m114 1 false (4, 196) (1, 1) (4, 194) (4, 195) = true := by decide +kernel
theorem am_c115 : am_ckc am_m115 2 false (4, 228) (1, 1) (4, 226) (4, 227) = true := by decide +kernel
theorem am_c116 : am_ckc am_m116 1 false (2, 141) (1, 1) (2, 140) (0, 2) = true := by decide +kernel
theorem am_c117 : am_ckc am_m117 1 false (2, 151) (1, 1) (2, 150) (0, 3) = true := by decide +kernel
theorem am_c118 : am_ckc am_m118 1 true (2, 128) (1, 1) (2, 127) (0, 0) = true := by decide +kernel
theorem am_c119 : am_ckc am_m119 2 true (1, 58) (1, 1) (1, 57) (0, 0) = true := by decide +kernel
theorem am_c120 : am_ckc am_m120 1 true (2, 158) (1, 1) (2, 157) (0, 0) = true := by decide +kernel
theorem am_c121 : am_ckc am_m121 0 false (5, 18) (1, 12) (5, 17) (0, 0) = true := by decide +kernel
theorem am_c122 : am_ckc am_m122 0 false (5, 204) (1, 12) (5, 202) (5, 203) = true := by decide +kernel
theorem am_c123 : am_ckc am_m123 2 true (5, 224) (1, 12) (5, 223) (0, 0) = true := by decide +kernel
theorem am_c124 : am_ckc am_m124 1 false (5, 32) (1, 12) (5, 31) (0, 25) = true := by decide +kernel
theorem am_c125 : am_ckc am_m125 4 true (5, 28) (1, 12) (5, 27) (0, 0) = true := by decide +kernel
theorem am_c126 : am_ckc am_m126 3 false (5, 25) (1, 12) (5, 24) (0, 24) = true := by decide +kernel
theorem am_c127 : am_ckc am_m127 0 false (5, 36) (1, 12) (5, 35) (0, 26) = true := by decide +kernel
theorem am_c128 : am_ckc am_m128 2 false (5, 40) (1, 12) (5, 39) (0, 27) = true := by decide +kernel
theorem am_c129 : am_ckc am_m129 2 false (6, 28) (1, 12) (6, 27) (0, 40) = true := by decide +kernel
theorem am_c130 : am_ckc am_m130 1 false (6, 144) (1, 12) (6, 143) (0, 69) = true := by decide +kernel
theorem am_c131 : am_ckc am_m131 4 false (6, 12) (1, 12) (6, 11) (0, 36) = true := by decide +kernel
theorem am_c132 : am_ckc am_m132 2 false (6, 152) (1, 12) (6, 151) (0, 71) = true := by decide +kernel
theorem am_c133 : am_ckc am_m133 2 false (6, 52) (1, 12) (6, 51) (0, 46) = true := by decide +kernel
theorem am_c134 : am_ckc am_m134 2 false (6, 4) (1, 12) (6, 3) (0, 34) = true := by decide +kernel
theorem am_c135 : am_ckc am_m135 2 false (6, 8) (1, 12) (6, 7) (0, 35) = true := by decide +kernel
theorem am_c136 : am_ckc am_m136 2 false (6, 24) (1, 12) (6, 23) (0, 39) = true := by decide +kernel
theorem am_c137 : am_ckc am_m137 3 false (6, 120) (1, 12) (6, 119) (0, 63) = true := by decide +kernel
theorem am_c138 : am_ckc am_m138 2 false (6, 116) (1, 12) (6, 115) (0, 62) = true := by decide +kernel
theorem am_c139 : am_ckc am_m139 3 false (6, 64) (1, 12) (6, 63) (0, 49) = true := by decide +kernel
theorem am_c140 : am_ckc am_m140 3 false (6, 128) (1, 12) (6, 127) (0, 65) = true := by decide +kernel
theorem am_c141 : am_ckc am_m141 1 false (6, 140) (1, 12) (6, 139) (0, 68) = true := by decide +kernel
theorem am_c142 : am_ckc am_m142 2 false (6, 112) (1, 12) (6, 111) (0, 61) = true := by decide +kernel
theorem am_c143 : am_ckc am_m143 3 false (6, 20) (1, 12) (6, 19) (0, 38) = true := by decide +kernel
theorem am_c144 : am_ckc am_m144 2 false (6, 48) (1, 12) (6, 47) (0, 45) = true := by decide +kernel
theorem am_c145 : am_ckc am_m145 1 false (6, 96) (1, 12) (6, 95) (0, 57) = true := by decide +kernel
theorem am_c146 : am_ckc am_m146 1 false (6, 104) (1, 12) (6, 103) (0, 59) = true := by decide +kernel
theorem am_c147 : am_ckc am_m147 0 false (5, 216) (1, 12) (5, 215) (0, 28) = true := by decide +kernel
theorem am_c148 : am_ckc am_m148 0 false (5, 232) (1, 12) (5, 231) (0, 31) = true := by decide +kernel
theorem am_c149 : am_ckc am_m149 0 false (6, 0) (1, 12) (5, 239) (0, 33) = true := by decide +kernel
theorem am_c150 : am_ckc am_m150 0 false (6, 36) (1, 12) (6, 35) (0, 42) = true := by decide +kernel
theorem am_c151 : am_ckc am_m151 0 false (6, 84) (1, 12) (6, 83) (0, 54) = true := by decide +kernel
theorem am_c152 : am_ckc am_m152 1 false (5, 228) (1, 12) (5, 227) (0, 30) = true := by decide +kernel
theorem am_c153 : am_ckc am_m153 1 false (6, 16) (1, 12) (6, 15) (0, 37) = true := by decide +kernel
theorem am_c154 : am_ckc am_m154 1 false (5, 220) (1, 12) (5, 219) (0, 29) = true := by decide +kernel
theorem am_c155 : am_ckc am_m155 1 false (5, 236) (1, 12) (5, 235) (0, 32) = true := by decide +kernel
theorem am_c156 : am_ckc am_m156 1 false (6, 68) (1, 12) (6, 67) (0, 50) = true := by decide +kernel
theorem am_c157 : am_ckc am_m157 2 false (6, 92) (1, 12) (6, 91) (0, 56) = true := by decide +kernel
theorem am_c158 : am_ckc am_m158 0 false (6, 44) (1, 12) (6, 43) (0, 44) = true := by decide +kernel
theorem am_c159 : am_ckc am_m159 2 false (6, 56) (1, 12) (6, 55) (0, 47) = true := by decide +kernel
theorem am_c160 : am_ckc am_m160 1 false (6, 60) (1, 12) (6, 59) (0, 48) = true := by decide +kernel
theorem am_c161 : am_ckc am_m161 2 false (6, 100) (1, 12) (6, 99) (0, 58) = true := by decide +kernel
theorem am_c162 : am_ckc am_m162 1 false (6, 32) (1, 12) (6, 31) (0, 41) = true := by decide +kernel
theorem am_c163 : am_ckc am_m163 2 false (6, 40) (1, 12) (6, 39) (0, 43) = true := by decide +kernel
theorem am_c164 : am_ckc am_m164 3 false (6, 88) (1, 12) (6, 87) (0, 55) = true := by decide +kernel
theorem am_c165 : am_ckc am_m165 2 false (6, 108) (1, 12) (6, 107) (0, 60) = true := by decide +kernel
theorem am_c166 : am_ckc am_m166 0 false (6, 124) (1, 12) (6, 123) (0, 64) = true := by decide +kernel
theorem am_c167 : am_ckc am_m167 0 false (6, 132) (1, 12) (6, 131) (0, 66) = true := by decide +kernel
theorem am_c168 : am_ckc am_m168 1 false (6, 136) (1, 12) (6, 135) (0, 67) = true := by decide +kernel
theorem am_c169 : am_ckc am_m169 1 false (6, 80) (1, 12) (6, 79) (0, 53) = true := by decide +kernel
theorem am_c170 : am_ckc am_m170 1 false (6, 76) (1, 12) (6, 75) (0, 52) = true := by decide +kernel
theorem am_c171 : am_ckc am_m171 1 false (6, 72) (1, 12) (6, 71) (0, 51) = true := by decide +kernel
theorem am_c172 : am_ckc am_m172 1 false (6, 148) (1, 12) (6, 147) (0, 70) = true := by decide +kernel
theorem am_c173 : am_ckc am_m173 2 false (6, 184) (1, 12) (6, 183) (0, 79) = true := by decide +kernel
theorem am_c174 : am_ckc am_m174 0 false (6, 180) (1, 12) (6, 179) (0, 78) = true := by decide +kernel
theorem am_c175 : am_ckc am_m175 2 false (6, 176) (1, 12) (6, 175) (0, 77) = true := by decide +kernel
theorem am_c176 : am_ckc am_m176 2 false (6, 172) (1, 12) (6, 171) (0, 76) = true := by decide +kernel
theorem am_c177 : am_ckc am_m177 2 false (6, 192) (1, 12) (6, 191) (0, 81) = true := by decide +kernel
theorem am_c178 : am_ckc am_m178 1 false (6, 168) (1, 12) (6, 167) (0, 75) = true := by decide +kernel
theorem am_c179 : am_ckc am_m179 2 false (6, 200) (1, 12) (6, 199) (0, 83) = true := by decide +kernel
theorem am_c180 : am_ckc am_m180 1 false (6, 196) (1, 12) (6, 195) (0, 82) = true := by decide +kernel
theorem am_c181 : am_ckc am_m181 0 false (6, 160) (1, 12) (6, 159) (0, 73) = true := by decide +kernel
theorem am_c182 : am_ckc am_m182 0 false (6, 164) (1, 12) (6, 163) (0, 74) = true := by decide +kernel
theorem am_c183 : am_ckc am_m183 0 false (6, 188) (1, 12) (6, 187) (0, 80) = true := by decide +kernel
theorem am_c184 : am_ckc am_m184 1 false (6, 156) (1, 12) (6, 155) (0, 72) = true := by decide +kernel
theorem am_c185 : am_ckc am_m185 1 false (5, 208) (1, 12) (5, 206) (5, 207) = true := by decide +kernel
theorem am_c186 : am_ckc am_m186 1 false (6, 208) (1, 12) (6, 207) (0, 85) = true := by decide +kernel
theorem am_c187 : am_ckc am_m187 1 false (6, 204) (1, 12) (6, 203) (0, 84) = true := by decide +kernel
theorem am_c188 : am_ckc am_m188 0 false (5, 212) (1, 12) (5, 210) (5, 211) = true := by decide +kernel
theorem am_c189 : am_ckc am_m189 0 false (6, 212) (1, 12) (6, 210) (6, 211) = true := by decide +kernel
theorem am_c190 : am_ckc am_m190 0 false (6, 216) (1, 12) (6, 214) (6, 215) = true := by decide +kernel
theorem am_c191 : am_ckc am_m191 1 false (6, 220) (1, 12) (6, 218) (6, 219) = true := by decide +kernel
theorem am_c192 : am_ckc am_m192 2 false (6, 232) (1, 12) (6, 231) (0, 87) = true := by decide +kernel
theorem am_c193 : am_ckc am_m193 3 false (6, 228) (1, 12) (6, 227) (0, 86) = true := by decide +kernel
theorem am_c194 : am_ckc am_m194 3 false (6, 224) (1, 12) (6, 222) (6, 223) = true := by decide +kernel
theorem am_c195 : am_ckc am_m195 4 false (6, 236) (1, 12) (6, 234) (6, 235) = true := by decide +kernel
theorem am_c196 : am_ckc am_m196 1 false (7, 4) (1, 12) (7, 3) (0, 88) = true := by decide +kernel
theorem am_c197 : am_ckc am_m197 1 false (7, 8) (1, 12) (7, 7) (0, 89) = true := by decide +kernel
theorem am_c198 : am_ckc am_m198 1 false (7, 0) (1, 12) (6, 238) (6, 239) = true := by decide +kernel
theorem am_c199 : am_ckc am_m199 3 false (7, 16) (1, 12) (7, 15) (0, 90) = true := by decide +kernel
theorem am_c200 : am_ckc am_m200 2 false (7, 12) (1, 12) (7, 10) (7, 11) = true := by decide +kernel
theorem am_cal_all : ∀ x M n isS, am_tb x = some M → am_hd x = some (n, isS) → am_cal M n isS := by
  intro x M n isS hM hh
  match x, hM, hh with
  | 0, hM, hh => cases hM; cases hh; exact am_ckc_ok am_c0
  | 1, hM, hh => cases hM; cases hh; exact am_ckc_ok am_c1
  | 2, hM, hh => cases hM; cases hh; exact am_ckc_ok am_c2
  | 3, hM, hh => cases hM; cases hh; exact am_ckc_ok am_c3
  | 4, hM, hh => cases hM; cases hh; exact am_ckc_ok am_c4
  | 5, hM, hh => cases hM; cases hh; exact am_ckc_ok am_c5
  | 6, hM, hh => cases hM; cases hh; exact am_ckc_ok am_c6
  | 7, hM, hh => cases hM; cases hh; exact am_ckc_ok am_c7
  | 8, hM, hh => cases hM; cases hh; exact am_ckc_ok am_c8
  | 9, hM, hh => cases hM; cases hh; exact am_ckc_ok am_c9
  | 10, hM, hh => cases hM; cases hh; exact am_ckc_ok am_c10
  | 11, hM, hh => cases hM; cases hh; exact am_ckc_ok am_c11
  | 12, hM, hh => cases hM; cases hh; exact am_ckc_ok am_c12
  | 13, hM, hh => cases hM; cases hh; exact am_ckc_ok am_c13
  | 14, hM, hh => cases hM; cases hh; exact am_ckc_ok am_c14
  | 15, hM, hh => cases hM; cases hh; exact am_ckc_ok am_c15
  | 16, hM, hh => cases hM; cases hh; exact am_ckc_ok am_c16
  | 17, hM, hh => cases hM; cases hh; exact am_ckc_ok am_c17
  | 18, hM, hh => cases hM; cases hh; exact am_ckc_ok am_c18
  | 19, hM, hh => cases hM; cases hh; exact am_ckc_ok am_c19
  | 20, hM, hh => cases hM; cases hh; exact am_ckc_ok am_c20
  | 21, hM, hh => cases hM; cases hh; exact am_ckc_ok am_c21
  | 22, hM, hh => cases hM; cases hh; exact am_ckc_ok am_c22
  | 23, hM, hh => cases hM; cases hh; exact am_ckc_ok am_c23
  | 24, hM, hh => cases hM; cases hh; exact am_ckc_ok am_c24
  | 25, hM, hh => cases hM; cases hh; exact am_ckc_ok am_c25
  | 26, hM, hh => cases hM; cases hh; exact am_ckc_ok am_c26
  | 27, hM, hh => cases hM; cases hh; exact am_ckc_ok am_c27
  | 28, hM, hh => cases hM; cases hh; exact am_ckc_ok am_c28
  | 29, hM, hh => cases hM; cases hh; exact am_ckc_ok am_c29
  | 30, hM, hh => cases hM; cases hh; exact am_ckc_ok am_c30
  | 31, hM, hh => cases hM; cases hh; exact am_ckc_ok am_c31
  | 32, hM, hh => cases hM; cases hh; exact am_ckc_ok am_c32
  | 33, hM, hh => cases hM; cases hh; exact am_ckc_ok am_c33
  | 34, hM, hh => cases hM; cases hh; exact am_ckc_ok am_c34
  | 35, hM, hh => cases hM; cases hh; exact am_ckc_ok am_c35
  | 36, hM, hh => cases hM; cases hh; exact am_ckc_ok am_c36
  | 37, hM, hh => cases hM; cases hh; exact am_ckc_ok am_c37
  | 38, hM, hh => cases hM; cases hh; exact am_ckc_ok am_c38
  | 39, hM, hh => cases hM; cases hh; exact am_ckc_ok am_c39
  | 40, hM, hh => cases hM; cases hh; exact am_ckc_ok am_c40
  | 41, hM, hh => cases hM; cases hh; exact am_ckc_ok am_c41
  | 42, hM, hh => cases hM; cases hh; exact am_ckc_ok am_c42
  | 43, hM, hh => cases hM; cases hh; exact am_ckc_ok am_c43
  | 44, hM, hh => cases hM; cases hh; exact am_ckc_ok am_c44
  | 45, hM, hh => cases hM; cases hh; exact am_ckc_ok am_c45
  | 46, hM, hh => cases hM; cases hh; exact am_ckc_ok am_c46
  | 47, hM, hh => cases hM; cases hh; exact am_ckc_ok am_c47
  | 48, hM, hh => cases hM; cases hh; exact am_ckc_ok am_c48
  | 49, hM, hh => cases hM; cases hh; exact am_ckc_ok am_c49
  | 50, hM, hh => cases hM; cases hh; exact am_ckc_ok am_c50
  | 51, hM, hh => cases hM; cases hh; exact am_ckc_ok am_c51
  | 52, hM, hh => cases hM; cases hh; exact am_ckc_ok am_c52
  | 53, hM, hh => cases hM; cases hh; exact am_ckc_ok am_c53
  | 54, hM, hh => cases hM; cases hh; exact am_ckc_ok am_c54
  | 55, hM, hh => cases hM; cases hh; exact am_ckc_ok am_c55
  | 56, hM, hh => cases hM; cases hh; exact am_ckc_ok am_c56
  | 57, hM, hh => cases hM; cases hh; exact am_ckc_ok am_c57
  | 58, hM, hh => cases hM; cases hh; exact am_ckc_ok am_c58
  | 59, hM, hh => cases hM; cases hh; exact am_ckc_ok am_c59
  | 60, hM, hh => cases hM; cases hh; exact am_ckc_ok am_c60
  | 61, hM, hh => cases hM; cases hh; exact am_ckc_ok am_c61
  | 62, hM, hh => cases hM; cases hh; exact am_ckc_ok am_c62
  | 63, hM, hh => cases hM; cases hh; exact am_ckc_ok am_c63
  | 64, hM, hh => cases hM; cases hh; exact am_ckc_ok am_c64
  | 65, hM, hh => cases hM; cases hh; exact am_ckc_ok am_c65
  | 66, hM, hh => cases hM; cases hh; exact am_ckc_ok am_c66
  | 67, hM, hh => cases hM; cases hh; exact am_ckc_ok am_c67
  | 68, hM, hh => cases hM; cases hh; exact am_ckc_ok am_c68
  | 69, hM, hh => cases hM; cases hh; exact am_ckc_ok am_c69
  | 70, hM, hh => cases hM; cases hh; exact am_ckc_ok am_c70
  | 71, hM, hh => cases hM; cases hh; exact am_ckc_ok am_c71
  | 72, hM, hh => cases hM; cases hh; exact am_ckc_ok am_c72
  | 73, hM, hh => cases hM; cases hh; exact am_ckc_ok am_c73
  | 74, hM, hh => cases hM; cases hh; exact am_ckc_ok am_c74
  | 75, hM, hh => cases hM; cases hh; exact am_ckc_ok am_c75
  | 76, hM, hh => cases hM; cases hh; exact am_ckc_ok am_c76
  | 77, hM, hh => cases hM; cases hh; exact am_ckc_ok am_c77
  | 78, hM, hh => cases hM; cases hh; exact am_ckc_ok am_c78
  | 79, hM, hh => cases hM; cases hh; exact am_ckc_ok am_c79
  | 80, hM, hh => cases hM; cases hh; exact am_ckc_ok am_c80
  | 81, hM, hh => cases hM; cases hh; exact am_ckc_ok am_c81
  | 82, hM, hh => cases hM; cases hh; exact am_ckc_ok am_c82
  | 83, hM, hh => cases hM; cases hh; exact am_ckc_ok am_c83
  | 84, hM, hh => cases hM; cases hh; exact am_ckc_ok am_c84
  | 85, hM, hh => cases hM; cases hh; exact am_ckc_ok am_c85
  | 86, hM, hh => cases hM; cases hh; exact am_ckc_ok am_c86
  | 87, hM, hh => cases hM; cases hh; exact am_ckc_ok am_c87
  | 88, hM, hh => cases hM; cases hh; exact am_ckc_ok am_c88
  | 89, hM, hh => cases hM; cases hh; exact am_ckc_ok am_c89
  | 90, hM, hh => cases hM; cases hh; exact am_ckc_ok am_c90
  | 91, hM, hh => cases hM; cases hh; exact am_ckc_ok am_c91
  | 92, hM, hh => cases hM; cases hh; exact am_ckc_ok am_c92
  | 93, hM, hh => cases hM; cases hh; exact am_ckc_ok am_c93
  | 94, hM, hh => cases hM; cases hh; exact am_ckc_ok am_c94
  | 95, hM, hh => cases hM; cases hh; exact am_ckc_ok am_c95
  | 96, hM, hh => cases hM; cases hh; exact am_ckc_ok am_c96
  | 97, hM, hh => cases hM; cases hh; exact am_ckc_ok am_c97
  | 98, hM, hh => cases hM; cases hh; exact am_ckc_ok am_c98
  | 99, hM, hh => cases hM; cases hh; exact am_ckc_ok am_c99
  | 100, hM, hh => cases hM; cases hh; exact am_ckc_ok am_c100
  | 101, hM, hh => cases hM; cases hh; exact am_ckc_ok am_c101
  | 102, hM, hh => cases hM; cases hh; exact am_ckc_ok am_c102
  | 103, hM, hh => cases hM; cases hh; exact am_ckc_ok am_c103
  | 104, hM, hh => cases hM; cases hh; exact am_ckc_ok am_c104
  | 105, hM, hh => cases hM; cases hh; exact am_ckc_ok am_c105
  | 106, hM, hh => cases hM; cases hh; exact am_ckc_ok am_c106
  | 107, hM, hh => cases hM; cases hh; exact am_ckc_ok am_c107
  | 108, hM, hh => cases hM; cases hh; exact am_ckc_ok am_c108
  | 109, hM, hh => cases hM; cases hh; exact am_ckc_ok am_c109
  | 110, hM, hh => cases hM; cases hh; exact am_ckc_ok am_c110
  | 111, hM, hh => cases hM; cases hh; exact am_ckc_ok am_c111
  | 112, hM, hh => cases hM; cases hh; exact am_ckc_ok am_c112
  | 113, hM, hh => cases hM; cases hh; exact am_ckc_ok am_c113
  | 114, hM, hh => cases hM; cases hh; exact am_ckc_ok am_c114
  | 115, hM, hh => cases hM; cases hh; exact am_ckc_ok am_c115
  | 116, hM, hh => cases hM; cases hh; exact am_ckc_ok am_c116
  | 117, hM, hh => cases hM; cases hh; exact am_ckc_ok am_c117
  | 118, hM, hh => cases hM; cases hh; exact am_ckc_ok am_c118
  | 119, hM, hh => cases hM; cases hh; exact am_ckc_ok am_c119
  | 120, hM, hh => cases hM; cases hh; exact am_ckc_ok am_c120
  | 121, hM, hh => cases hM; cases hh; exact am_ckc_ok am_c121
  | 122, hM, hh => cases hM; cases hh; exact am_ckc_ok am_c122
  | 123, hM, hh => cases hM; cases hh; exact am_ckc_ok am_c123
  | 124, hM, hh => cases hM; cases hh; exact am_ckc_ok am_c124
  | 125, hM, hh => cases hM; cases hh; exact am_ckc_ok am_c125
  | 126, hM, hh => cases hM; cases hh; exact am_ckc_ok am_c126
  | 127, hM, hh => cases hM; cases hh; exact am_ckc_ok am_c127
  | 128, hM, hh => cases hM; cases hh; exact am_ckc_ok am_c128
  | 129, hM, hh => cases hM; cases hh; exact am_ckc_ok am_c129
  | 130, hM, hh => cases hM; cases hh; exact am_ckc_ok am_c130
  | 131, hM, hh => cases hM; cases hh; exact am_ckc_ok am_c131
  | 132, hM, hh => cases hM; cases hh; exact am_ckc_ok am_c132
  | 133, hM, hh => cases hM; cases hh; exact am_ckc_ok am_c133
  | 134, hM, hh => cases hM; cases hh; exact am_ckc_ok am_c134
  | 135, hM, hh => cases hM; cases hh; exact am_ckc_ok am_c135
  | 136, hM, hh => cases hM; cases hh; exact am_ckc_ok am_c136
  | 137, hM, hh => cases hM; cases hh; exact am_ckc_ok am_c137
  | 138, hM, hh => cases hM; cases hh; exact am_ckc_ok am_c138
  | 139, hM, hh => cases hM; cases hh; exact am_ckc_ok am_c139
  | 140, hM, hh => cases hM; cases hh; exact am_ckc_ok am_c140
  | 141, hM, hh => cases hM; cases hh; exact am_ckc_ok am_c141
  | 142, hM, hh => cases hM; cases hh; exact am_ckc_ok am_c142
  | 143, hM, hh => cases hM; cases hh; exact am_ckc_ok am_c143
  | 144, hM, hh => cases hM; cases hh; exact am_ckc_ok am_c144
  | 145, hM, hh => cases hM; cases hh; exact am_ckc_ok am_c145
  | 146, hM, hh => cases hM; cases hh; exact am_ckc_ok am_c146
  | 147, hM, hh => cases hM; cases hh; exact am_ckc_ok am_c147
  | 148, hM, hh => cases hM; cases hh; exact am_ckc_ok am_c148
  | 149, hM, hh => cases hM; cases hh; exact am_ckc_ok am_c149
  | 150, hM, hh => cases hM; cases hh; exact am_ckc_ok am_c150
  | 151, hM, hh => cases hM; cases hh; exact am_ckc_ok am_c151
  | 152, hM, hh => cases hM; cases hh; exact am_ckc_ok am_c152
  | 153, hM, hh => cases hM; cases hh; exact am_ckc_ok am_c153
  | 154, hM, hh => cases hM; cases hh; exact am_ckc_ok am_c154
  | 155, hM, hh => cases hM; cases hh; exact am_ckc_ok am_c155
  | 156, hM, hh => cases hM; cases hh; exact am_ckc_ok am_c156
  | 157, hM, hh => cases hM; cases hh; exact am_ckc_ok am_c157
  | 158, hM, hh => cases hM; cases hh; exact am_ckc_ok am_c158
  | 159, hM, hh => cases hM; cases hh; exact am_ckc_ok am_c159
  | 160, hM, hh => cases hM; cases hh; exact am_ckc_ok am_c160
  | 161, hM, hh => cases hM; cases hh; exact am_ckc_ok am_c161
  | 162, hM, hh => cases hM; cases hh; exact am_ckc_ok am_c162
  | 163, hM, hh => cases hM; cases hh; exact am_ckc_ok am_c163
  | 164, hM, hh => cases hM; cases hh; exact am_ckc_ok am_c164
  | 165, hM, hh => cases hM; cases hh; exact am_ckc_ok am_c165
  | 166, hM, hh => cases hM; cases hh; exact am_ckc_ok am_c166
  | 167, hM, hh => cases hM; cases hh; exact am_ckc_ok am_c167
  | 168, hM, hh => cases hM; cases hh; exact am_ckc_ok am_c168
  | 169, hM, hh => cases hM; cases hh; exact am_ckc_ok am_c169
  | 170, hM, hh => cases hM; cases hh; exact am_ckc_ok am_c170
  | 171, hM, hh => cases hM; cases hh; exact am_ckc_ok am_c171
  | 172, hM, hh => cases hM; cases hh; exact am_ckc_ok am_c172
  | 173, hM, hh => cases hM; cases hh; exact am_ckc_ok am_c173
  | 174, hM, hh => cases hM; cases hh; exact am_ckc_ok am_c174
  | 175, hM, hh => cases hM; cases hh; exact am_ckc_ok am_c175
  | 176, hM, hh => cases hM; cases hh; exact am_ckc_ok am_c176
  | 177, hM, hh => cases hM; cases hh; exact am_ckc_ok am_c177
  | 178, hM, hh => cases hM; cases hh; exact am_ckc_ok am_c178
  | 179, hM, hh => cases hM; cases hh; exact am_ckc_ok am_c179
  | 180, hM, hh => cases hM; cases hh; exact am_ckc_ok am_c180
  | 181, hM, hh => cases hM; cases hh; exact am_ckc_ok am_c181
  | 182, hM, hh => cases hM; cases hh; exact am_ckc_ok am_c182
  | 183, hM, hh => cases hM; cases hh; exact am_ckc_ok am_c183
  | 184, hM, hh => cases hM; cases hh; exact am_ckc_ok am_c184
  | 185, hM, hh => cases hM; cases hh; exact am_ckc_ok am_c185
  | 186, hM, hh => cases hM; cases hh; exact am_ckc_ok am_c186
  | 187, hM, hh => cases hM; cases hh; exact am_ckc_ok am_c187
  | 188, hM, hh => cases hM; cases hh; exact am_ckc_ok am_c188
  | 189, hM, hh => cases hM; cases hh; exact am_ckc_ok am_c189
  | 190, hM, hh => cases hM; cases hh; exact am_ckc_ok am_c190
  | 191, hM, hh => cases hM; cases hh; exact am_ckc_ok am_c191
  | 192, hM, hh => cases hM; cases hh; exact am_ckc_ok am_c192
  | 193, hM, hh => cases hM; cases hh; exact am_ckc_ok am_c193
  | 194, hM, hh => cases hM; cases hh; exact am_ckc_ok am_c194
  | 195, hM, hh => cases hM; cases hh; exact am_ckc_ok am_c195
  | 196, hM, hh => cases hM; cases hh; exact am_ckc_ok am_c196
  | 197, hM, hh => cases hM; cases hh; exact am_ckc_ok am_c197
  | 198, hM, hh => cases hM; cases hh; exact am_ckc_ok am_c198
  | 199, hM, hh => cases hM; cases hh; exact am_ckc_ok am_c199
  | 200, hM, hh => cases hM; cases hh; exact am_ckc_ok am_c200
  | x + 201, hM, hh => exact absurd hM (by show ¬ am_Ms[x + 201]? = some M; rw [List.getElem?_eq_none (by show am_Ms.length ≤ x + 201; rw [show am_Ms.length = 201 from rfl]; omega)]; exact fun h => by cases h)
end
section
/-! the checks -/
theorem am_base_ok : am_base := by
  refine ⟨⟨am_lw_ok (w := (1, 26)) (by decide +kernel), am_lw_ok (w := (1, 27)) (by decide +kernel), am_lw_ok (w := (1, 115)) (by decide +kernel)⟩, ⟨am_lw_ok (w := (1, 60)) (by decide +kernel), am_lw_ok (w := (1, 4)) (by decide +kernel), am_lw_ok (w := (1, 61)) (by decide +kernel)⟩, ⟨am_lw_ok (w := (1, 73)) (by decide +kernel), am_lw_ok (w := (1, 74)) (by decide +kernel)⟩, ⟨am_lw_ok (w := (1, 77)) (by decide +kernel), am_lw_ok (w := (1, 76)) (by decide +kernel), am_lw_ok (w := (1, 5)) (by decide +kernel)⟩, fun x q hq => ?_⟩
  match x, hq with
  | 0, hq => cases hq; exact ⟨am_lw_ok (w := (2, 68)) (by decide +kernel), am_lw_ok (w := (1, 11)) (by decide +kernel), rfl, by decide +kernel⟩
  | 1, hq => cases hq; exact ⟨am_lw_ok (w := (1, 146)) (by decide +kernel), am_lw_ok (w := (1, 7)) (by decide +kernel), rfl, by decide +kernel⟩
  | 2, hq => cases hq; exact ⟨am_lw_ok (w := (3, 53)) (by decide +kernel), am_lw_ok (w := (1, 13)) (by decide +kernel), rfl, by decide +kernel⟩
  | 3, hq => cases hq; exact ⟨am_lw_ok (w := (1, 202)) (by decide +kernel), am_lw_ok (w := (1, 8)) (by decide +kernel), rfl, by decide +kernel⟩
  | 4, hq => cases hq; exact ⟨am_lw_ok (w := (2, 6)) (by decide +kernel), am_lw_ok (w := (1, 9)) (by decide +kernel), rfl, by decide +kernel⟩
  | 5, hq => cases hq; exact ⟨am_lw_ok (w := (1, 117)) (by decide +kernel), am_lw_ok (w := (1, 6)) (by decide +kernel), rfl, by decide +kernel⟩
  | 6, hq => cases hq; exact ⟨am_lw_ok (w := (2, 46)) (by decide +kernel), am_lw_ok (w := (1, 10)) (by decide +kernel), rfl, by decide +kernel⟩
  | 7, hq => cases hq; exact ⟨am_lw_ok (w := (1, 29)) (by decide +kernel), am_lw_ok (w := (1, 2)) (by decide +kernel), rfl, by decide +kernel⟩
  | 8, hq => cases hq; exact ⟨am_lw_ok (w := (1, 21)) (by decide +kernel), am_lw_ok (w := (1, 1)) (by decide +kernel), rfl, by decide +kernel⟩
  | 9, hq => cases hq; exact ⟨am_lw_ok (w := (5, 15)) (by decide +kernel), am_lw_ok (w := (1, 12)) (by decide +kernel), rfl, by decide +kernel⟩
  | k + 10, hq => simp [vwCl] at hq
theorem am_k0 : am_ckM am_tb am_hd am_m0 [(0, 0), (0, 0), (0, 0), (0, 0), (0, 0), (0, 0), (0, 0), (0, 0), (0, 0), (0, 0), (0, 0), (0, 0), (0, 0), (0, 0), (0, 0)] = true := by decide +kernel
theorem am_k1 : am_ckM am_tb am_hd am_m1 [(0, 0), (0, 0), (0, 0), (0, 0), (0, 0), (1, 65), (0, 0), (0, 0), (0, 0), (0, 0), (0, 0), (0, 0), (0, 0), (0, 0), (0, 0), (0, 0), (0, 0), (0, 0), (1, 72), (1, 75), (0, 0), (0, 0)] = true := by decide +kernel
theorem am_k2 : am_ckM am_tb am_hd am_m2 [(0, 0), (1, 33), (0, 0), (0, 0), (0, 0), (1, 78), (0, 0), (0, 0), (0, 0), (1, 80), (0, 0), (0, 0), (0, 0), (1, 83), (0, 0), (0, 0), (0, 0), (1, 86), (0, 0), (0, 0), (0, 0), (1, 88), (0, 0), (0, 0), (0, 0), (1, 89), (0, 0), (0, 0), (0, 0), (1, 90), (0, 0), (0, 0), (0, 0), (1, 92), (0, 0), (0, 0), (1, 94), (0, 0), (1, 92), (0, 0), (1, 34), (0, 0), (0, 0), (0, 0), (0, 0), (1, 37), (0, 0), (0, 0), (0, 0), (0, 0), (0, 0), (1, 37), (0, 0), (0, 0)] = true := by decide +kernel
theorem am_k3 : am_ckM am_tb am_hd am_m3 [(0, 0), (0, 0), (0, 0), (0, 0), (0, 0), (0, 0), (0, 0), (0, 0), (0, 0), (0, 0), (0, 0), (1, 41), (0, 0), (0, 0), (0, 0), (0, 0), (0, 0), (0, 0), (1, 48), (0, 0), (0, 0), (0, 0), (0, 0), (0, 0), (0, 0), (0, 0), (0, 0), (0, 0), (0, 0), (0, 0), (1, 52), (0, 0)] = true := by decide +kernel
theorem am_k4 : am_ckM am_tb am_hd am_m4 [(0, 0), (1, 92), (0, 0), (0, 0), (0, 0), (0, 0), (0, 0), (0, 0), (0, 0), (0, 0), (0, 0), (0, 0), (1, 94), (0, 0), (0, 0), (1, 78), (0, 0), (0, 0), (0, 0), (0, 0), (0, 0), (1, 80), (0, 0), (0, 0), (0, 0), (0, 0), (0, 0), (1, 83), (0, 0), (0, 0), (0, 0), (0, 0), (0, 0), (0, 0), (0, 0), (1, 89), (0, 0), (0, 0), (0, 0), (0, 0), (0, 0), (0, 0), (0, 0)] = true := by decide +kernel
theorem am_k5 : am_ckM am_tb am_hd am_m5 [(0, 0), (0, 0), (1, 86), (0, 0), (99, 0), (0, 0), (0, 0), (1, 86), (0, 0), (99, 0), (0, 0), (0, 0), (0, 0), (0, 0), (1, 88), (0, 0), (99, 0), (0, 0), (1, 88), (0, 0), (99, 0), (1, 59), (0, 0), (0, 0), (0, 0), (0, 0), (0, 0), (0, 0), (0, 0), (0, 0), (0, 0), (1, 94), (0, 0), (0, 0), (0, 0), (0, 0), (0, 0), (1, 94), (0, 0), (1, 78), (0, 0), (0, 0), (0, 0), (0, 0), (1, 94), (0, 0), (0, 0), (0, 0), (0, 0), (1, 78), (0, 0), (1, 62), (1, 78), (0, 0), (0, 0), (1, 80), (0, 0), (1, 62), (1, 80), (0, 0), (0, 0), (1, 83), (0, 0), (1, 62), (1, 83), (0, 0), (0, 0), (1, 86), (0, 0), (1, 62), (1, 86), (0, 0), (0, 0), (1, 88), (0, 0), (1, 62), (1, 88), (0, 0), (0, 0), (1, 89), (0, 0), (1, 62), (1, 89), (0, 0), (0, 0), (1, 90), (0, 0), (1, 62), (1, 90), (0, 0), (1, 78), (0, 0), (1, 94), (0, 0), (0, 0), (0, 0), (1, 80), (0, 0), (1, 94), (0, 0), (0, 0), (0, 0), (1, 83), (0, 0), (1, 94), (0, 0), (0, 0), (0, 0), (1, 86), (0, 0), (1, 94), (0, 0), (0, 0), (0, 0), (1, 88), (0, 0), (1, 94), (0, 0), (0, 0), (0, 0), (1, 89), (0, 0), (1, 94), (0, 0), (1, 92), (0, 0), (0, 0), (0, 0), (0, 0), (1, 92), (0, 0), (0, 0), (1, 94), (0, 0), (0, 0), (0, 0), (1, 94), (0, 0), (0, 0), (1, 94), (0, 0), (1, 94), (0, 0), (0, 0), (0, 0)] = true := by decide +kernel
theorem am_k6 : am_ckM am_tb am_hd am_m6 [(0, 0), (1, 44), (0, 0), (0, 0), (1, 45), (0, 0), (0, 0), (0, 0), (1, 46), (0, 0), (0, 0), (0, 0), (0, 0), (0, 0), (0, 0), (0, 0), (0, 0), (1, 47), (0, 0), (0, 0), (0, 0), (0, 0), (0, 0), (0, 0)] = true := by decide +kernel
theorem am_k7 : am_ckM am_tb am_hd am_m7 [(0, 0), (1, 94), (0, 0), (0, 0), (0, 0), (0, 0), (0, 0), (0, 0), (0, 0), (1, 92), (0, 0), (1, 78), (0, 0), (0, 0), (0, 0), (1, 80), (0, 0), (0, 0), (0, 0), (1, 83), (0, 0), (0, 0), (1, 41), (0, 0), (1, 89), (0, 0), (0, 0), (0, 0), (0, 0), (0, 0), (0, 0), (0, 0), (1, 94), (0, 0), (4, 72), (1, 94), (0, 0)] = true := by decide +kernel
theorem am_k8 : am_ckM am_tb am_hd am_m8 [(0, 0), (0, 0), (0, 0), (1, 78), (0, 0), (0, 0), (0, 0), (0, 0), (0, 0), (0, 0), (0, 0), (0, 0)] = true := by decide +kernel
theorem am_k9 : am_ckM am_tb am_hd am_m9 [(0, 0), (0, 0), (4, 9), (0, 0), (0, 0), (1, 83), (0, 0), (0, 0), (0, 0), (0, 0), (0, 0)] = true := by decide +kernel
theorem am_k10 : am_ckM am_tb am_hd am_m10 [(0, 0), (0, 0), (0, 0), (0, 0), (0, 0), (0, 0), (0, 0), (0, 0), (0, 0), (0, 0), (0, 0), (0, 0), (0, 0), (1, 80), (0, 0), (0, 0), (0, 0), (0, 0), (0, 0), (1, 86), (0, 0), (0, 0), (0, 0), (0, 0), (0, 0), (0, 0), (0, 0), (0, 0), (1, 86), (0, 0), (0, 0), (0, 0), (0, 0), (0, 0), (1, 83), (0, 0), (0, 0), (0, 0), (0, 0), (0, 0), (0, 0), (1, 78), (0, 0), (0, 0), (0, 0)] = true := by decide +kernel
theorem am_k11 : am_ckM am_tb am_hd am_m11 [(0, 0), (0, 0), (0, 0), (0, 0), (1, 94), (0, 0), (0, 0), (1, 90), (0, 0), (0, 0), (0, 0), (0, 0), (0, 0), (0, 0)] = true := by decide +kernel
theorem am_k12 : am_ckM am_tb am_hd am_m12 [(0, 0), (1, 90), (0, 0), (0, 0), (0, 0), (0, 0)] = true := by decide +kernel
theorem am_k13 : am_ckM am_tb am_hd am_m13 [(0, 0), (1, 94), (0, 0), (0, 0), (0, 0), (0, 0), (0, 0), (0, 0), (1, 90), (0, 0), (0, 0), (0, 0), (0, 0), (0, 0), (1, 80), (0, 0), (0, 0), (0, 0), (0, 0), (0, 0), (0, 0), (1, 80), (0, 0), (0, 0), (3, 172), (0, 0), (1, 90), (0, 0), (0, 0), (0, 0), (0, 0), (0, 0), (1, 83), (0, 0), (0, 0), (0, 0), (0, 0), (0, 0), (0, 0), (1, 83), (0, 0), (0, 0), (3, 172), (0, 0), (0, 0), (0, 0)] = true := by decide +kernel
theorem am_k14 : am_ckM am_tb am_hd am_m14 [(0, 0), (0, 0), (0, 0), (0, 0), (0, 0), (0, 0), (1, 94), (0, 0), (0, 0), (1, 90), (0, 0), (0, 0), (0, 0), (0, 0), (0, 0), (1, 78), (0, 0), (0, 0), (0, 0), (0, 0), (0, 0), (0, 0), (0, 0), (0, 0)] = true := by decide +kernel
theorem am_k15 : am_ckM am_tb am_hd am_m15 [(0, 0), (0, 0), (0, 0), (0, 0), (0, 0), (0, 0), (1, 94), (0, 0), (0, 0), (1, 90), (0, 0), (0, 0), (0, 0), (0, 0), (0, 0), (1, 78), (0, 0), (0, 0), (0, 0), (0, 0), (0, 0), (1, 78), (0, 0), (0, 0), (0, 0), (0, 0), (0, 0), (0, 0), (0, 0), (0, 0), (0, 0), (0, 0), (0, 0), (0, 0), (0, 0), (0, 0), (0, 0), (1, 78), (0, 0), (0, 0), (0, 0), (1, 78), (0, 0), (0, 0), (0, 0), (0, 0), (0, 0), (0, 0), (0, 0), (0, 0), (0, 0)] = true := by decide +kernel
theorem am_k16 : am_ckM am_tb am_hd am_m16 [(0, 0), (0, 0), (0, 0), (0, 0), (0, 0), (0, 0), (1, 41), (0, 0), (0, 0), (0, 0), (0, 0), (0, 0), (1, 48), (0, 0), (0, 0), (0, 0), (0, 0), (0, 0), (1, 90), (0, 0), (0, 0), (0, 0), (0, 0), (0, 0), (1, 90), (0, 0), (0, 0), (0, 0), (0, 0)] = true := by decide +kernel
theorem am_k17 : am_ckM am_tb am_hd am_m17 [(0, 0), (1, 94), (0, 0), (0, 0), (0, 0), (0, 0), (0, 0), (0, 0), (0, 0), (1, 90), (0, 0), (0, 0), (0, 0), (0, 0), (0, 0), (1, 80), (0, 0), (0, 0), (0, 0), (0, 0), (0, 0), (0, 0), (1, 78), (0, 0), (0, 0), (0, 0), (0, 0), (1, 80), (0, 0), (0, 0), (3, 186), (0, 0), (0, 0), (1, 83), (0, 0), (0, 0), (3, 186), (1, 37), (0, 0), (0, 0), (0, 0), (0, 0), (0, 0), (0, 0), (0, 0), (1, 90), (0, 0), (0, 0), (0, 0), (0, 0), (0, 0), (0, 0), (0, 0)] = true := by decide +kernel
theorem am_k18 : am_ckM am_tb am_hd am_m18 [(0, 0), (1, 94), (0, 0), (0, 0), (0, 0), (5, 12), (0, 0), (0, 0), (0, 0), (0, 0), (0, 0), (0, 0), (1, 90), (0, 0), (0, 0), (0, 0), (0, 0), (0, 0), (0, 0), (1, 78), (0, 0), (0, 0), (0, 0), (0, 0), (1, 80), (0, 0), (0, 0), (3, 186), (0, 0), (0, 0), (1, 83), (0, 0), (0, 0), (3, 186), (1, 37), (0, 0), (0, 0), (1, 90), (0, 0), (0, 0), (0, 0), (0, 0), (0, 0), (0, 0)] = true := by decide +kernel
theorem am_k19 : am_ckM am_tb am_hd am_m19 [(0, 0), (0, 0), (0, 0), (0, 0), (0, 0), (0, 0), (1, 90), (0, 0), (0, 0), (0, 0)] = true := by decide +kernel
theorem am_k20 : am_ckM am_tb am_hd am_m20 [(0, 0), (2, 204), (0, 0), (0, 0), (0, 0), (0, 0), (2, 208), (0, 0)] = true := by decide +kernel
theorem am_k21 : am_ckM am_tb am_hd am_m21 [(0, 0), (0, 0), (0, 0), (0, 0), (0, 0), (0, 0), (1, 78), (0, 0), (0, 0), (0, 0), (0, 0), (1, 90), (0, 0), (0, 0), (0, 0), (0, 0), (0, 0), (1, 90), (0, 0), (0, 0), (0, 0), (0, 0), (1, 90), (0, 0), (0, 0), (0, 0), (0, 0), (0, 0), (0, 0), (0, 0), (0, 0), (0, 0), (1, 78), (0, 0), (0, 0), (0, 0), (1, 78), (0, 0), (0, 0), (0, 0), (0, 0), (0, 0), (0, 0), (1, 80), (0, 0), (0, 0), (0, 0), (0, 0), (0, 0), (0, 0), (1, 80), (0, 0), (0, 0), (0, 0), (1, 80), (0, 0), (0, 0), (0, 0), (0, 0), (0, 0), (2, 208), (0, 0), (0, 0), (1, 83), (0, 0), (0, 0), (0, 0), (0, 0), (0, 0), (0, 0), (1, 83), (0, 0), (0, 0), (0, 0), (1, 83), (0, 0), (0, 0), (0, 0), (0, 0), (0, 0), (2, 208), (0, 0), (0, 0), (0, 0), (0, 0), (0, 0)] = true := by decide +kernel
theorem am_k22 : am_ckM am_tb am_hd am_m22 [(0, 0), (1, 121), (0, 0), (0, 0), (0, 0), (1, 123), (0, 0), (0, 0), (0, 0), (1, 126), (0, 0), (0, 0), (1, 128), (0, 0), (0, 0), (1, 129), (0, 0), (0, 0), (1, 130), (0, 0), (0, 0), (1, 131), (0, 0), (1, 123), (0, 0), (0, 0), (0, 0), (0, 0), (0, 0), (0, 0), (0, 0), (1, 122), (0, 0), (0, 0), (1, 126), (0, 0), (0, 0), (0, 0), (0, 0), (0, 0), (1, 122), (0, 0), (0, 0), (1, 126), (0, 0), (0, 0), (0, 0), (0, 0), (0, 0), (1, 122), (0, 0), (0, 0)] = true := by decide +kernel
theorem am_k23 : am_ckM am_tb am_hd am_m23 [(0, 0), (0, 0), (0, 0), (0, 0), (1, 128), (0, 0), (0, 0), (0, 0), (0, 0), (0, 0)] = true := by decide +kernel
theorem am_k24 : am_ckM am_tb am_hd am_m24 [(0, 0), (0, 0), (0, 0), (0, 0), (1, 129), (0, 0), (0, 0), (0, 0), (0, 0), (0, 0)] = true := by decide +kernel
theorem am_k25 : am_ckM am_tb am_hd am_m25 [(0, 0), (1, 128), (0, 0), (0, 0), (0, 0), (0, 0), (0, 0), (1, 123), (0, 0), (1, 128), (0, 0), (0, 0), (0, 0), (0, 0), (1, 128), (0, 0), (0, 0), (1, 128), (0, 0), (1, 128), (0, 0), (0, 0), (0, 0)] = true := by decide +kernel
theorem am_k26 : am_ckM am_tb am_hd am_m26 [(0, 0), (1, 129), (0, 0), (0, 0), (0, 0), (0, 0), (0, 0), (1, 126), (0, 0), (1, 129), (0, 0), (0, 0), (0, 0), (0, 0), (1, 129), (0, 0), (0, 0), (1, 129), (0, 0), (1, 129), (0, 0), (0, 0), (0, 0)] = true := by decide +kernel
theorem am_k27 : am_ckM am_tb am_hd am_m27 [(0, 0), (0, 0), (1, 128), (1, 130), (0, 0), (0, 0), (1, 129), (1, 131), (0, 0)] = true := by decide +kernel
theorem am_k28 : am_ckM am_tb am_hd am_m28 [(0, 0), (0, 0), (1, 130), (1, 128), (0, 0), (0, 0), (1, 131), (1, 129), (0, 0)] = true := by decide +kernel
theorem am_k29 : am_ckM am_tb am_hd am_m29 [(0, 0), (1, 150), (0, 0), (0, 0), (0, 0), (1, 153), (0, 0), (0, 0), (1, 155), (0, 0), (0, 0), (0, 0), (1, 157), (0, 0), (0, 0), (0, 0), (1, 159), (0, 0), (0, 0), (0, 0), (1, 161), (0, 0), (0, 0), (0, 0), (1, 163), (0, 0), (0, 0), (0, 0), (1, 165), (0, 0), (0, 0), (0, 0), (1, 166), (0, 0), (0, 0), (0, 0), (1, 167), (0, 0), (0, 0), (1, 168), (0, 0), (0, 0), (0, 0), (1, 170), (0, 0), (0, 0), (0, 0), (1, 171), (0, 0), (0, 0), (1, 151), (0, 0), (0, 0), (1, 152), (0, 0)] = true := by decide +kernel
theorem am_k30 : am_ckM am_tb am_hd am_m30 [(0, 0), (0, 0), (1, 155), (0, 0), (0, 0), (1, 168), (0, 0)] = true := by decide +kernel
theorem am_k31 : am_ckM am_tb am_hd am_m31 [(0, 0), (0, 0), (0, 0), (0, 0), (1, 155), (0, 0), (0, 0), (0, 0), (0, 0), (0, 0)] = true := by decide +kernel
theorem am_k32 : am_ckM am_tb am_hd am_m32 [(0, 0), (0, 0), (0, 0), (0, 0), (1, 168), (0, 0), (0, 0), (0, 0), (0, 0), (0, 0)] = true := by decide +kernel
theorem am_k33 : am_ckM am_tb am_hd am_m33 [(0, 0), (0, 0), (2, 216), (0, 0), (0, 0), (1, 167), (0, 0), (0, 0), (0, 0), (0, 0), (0, 0), (0, 0), (0, 0)] = true := by decide +kernel
theorem am_k34 : am_ckM am_tb am_hd am_m34 [(0, 0), (0, 0), (2, 216), (0, 0), (0, 0), (1, 157), (0, 0), (0, 0), (0, 0), (0, 0), (1, 157), (0, 0), (0, 0), (0, 0), (0, 0), (0, 0), (0, 0), (0, 0), (0, 0), (0, 0), (0, 0)] = true := by decide +kernel
theorem am_k35 : am_ckM am_tb am_hd am_m35 [(0, 0), (99, 1), (0, 0), (0, 0), (0, 0), (1, 151), (0, 0), (0, 0), (0, 0), (0, 0), (0, 0), (2, 160), (2, 161), (0, 0), (0, 0), (0, 0), (0, 0), (0, 0)] = true := by decide +kernel
theorem am_k36 : am_ckM am_tb am_hd am_m36 [(0, 0), (1, 152), (99, 9), (0, 0), (0, 0), (0, 0), (0, 0), (0, 0), (0, 0), (0, 0), (2, 170), (0, 0), (0, 0), (0, 0), (0, 0), (0, 0), (0, 0), (2, 170), (0, 0), (0, 0), (0, 0), (0, 0), (0, 0), (1, 151), (0, 0), (0, 0), (0, 0), (0, 0), (1, 153), (0, 0), (0, 0), (0, 0), (0, 0), (0, 0), (0, 0), (0, 0), (0, 0), (1, 153), (0, 0), (0, 0), (0, 0), (0, 0), (2, 160), (2, 161), (0, 0)] = true := by decide +kernel
theorem am_k37 : am_ckM am_tb am_hd am_m37 [(0, 0), (99, 1), (0, 0), (0, 0), (0, 0), (2, 170), (0, 0), (0, 0), (0, 0), (0, 0), (0, 0), (0, 0), (0, 0), (0, 0), (1, 153), (0, 0), (0, 0), (0, 0), (0, 0), (2, 178), (0, 0), (0, 0), (0, 0), (0, 0), (0, 0)] = true := by decide +kernel
theorem am_k38 : am_ckM am_tb am_hd am_m38 [(0, 0), (1, 152), (0, 0), (2, 196), (0, 0), (0, 0), (0, 0), (2, 170), (0, 0), (0, 0), (1, 151), (0, 0), (1, 152), (99, 11), (0, 0), (0, 0), (0, 0), (1, 153), (0, 0), (0, 0), (2, 200), (0, 0), (0, 0), (0, 0), (0, 0), (0, 0), (0, 0), (0, 0), (0, 0), (1, 153), (0, 0), (0, 0), (0, 0), (0, 0), (2, 178), (0, 0), (0, 0), (0, 0), (0, 0), (0, 0)] = true := by decide +kernel
theorem am_k39 : am_ckM am_tb am_hd am_m39 [(0, 0), (0, 0), (2, 216), (0, 0), (0, 0), (0, 0), (2, 216), (0, 0), (0, 0), (1, 151), (0, 0), (1, 159), (0, 0), (0, 0), (2, 220), (0, 0), (0, 0), (0, 0), (0, 0), (1, 151), (99, 2), (0, 0), (1, 159), (0, 0), (0, 0), (0, 0), (0, 0), (1, 159), (0, 0), (0, 0), (0, 0), (0, 0), (0, 0), (0, 0), (1, 151), (99, 4), (0, 0), (1, 159), (0, 0), (0, 0), (0, 0), (0, 0), (0, 0), (2, 178), (0, 0), (0, 0), (0, 0), (0, 0), (0, 0)] = true := by decide +kernel
theorem am_k40 : am_ckM am_tb am_hd am_m40 [(0, 0), (0, 0), (2, 170), (0, 0), (0, 0), (0, 0), (2, 216), (0, 0), (0, 0), (0, 0), (0, 0), (1, 153), (0, 0), (0, 0), (2, 228), (0, 0), (0, 0), (0, 0), (0, 0), (1, 151), (0, 0), (0, 0), (1, 153), (0, 0), (0, 0), (0, 0), (1, 159), (0, 0), (0, 0), (2, 160), (0, 0), (0, 0), (2, 178), (0, 0), (0, 0), (0, 0), (0, 0), (0, 0)] = true := by decide +kernel
theorem am_k41 : am_ckM am_tb am_hd am_m41 [(0, 0), (0, 0), (0, 0), (0, 0), (0, 0), (0, 0), (0, 0), (2, 170), (0, 0), (0, 0), (0, 0), (0, 0), (0, 0), (0, 0), (0, 0), (0, 0), (1, 153), (0, 0), (0, 0), (0, 0), (0, 0), (2, 178), (0, 0), (0, 0), (0, 0), (0, 0), (0, 0)] = true := by decide +kernel
theorem am_k42 : am_ckM am_tb am_hd am_m42 [(0, 0), (0, 0), (0, 0), (1, 155), (0, 0), (0, 0), (0, 0), (0, 0), (0, 0), (1, 155), (0, 0), (1, 153), (0, 0), (0, 0), (0, 0), (0, 0), (1, 153), (99, 2), (1, 153), (0, 0), (1, 153), (0, 0), (1, 155), (0, 0), (0, 0), (0, 0), (0, 0), (1, 155), (0, 0), (0, 0), (1, 155), (0, 0), (0, 0)] = true := by decide +kernel
theorem am_k43 : am_ckM am_tb am_hd am_m43 [(0, 0), (0, 0), (1, 165), (0, 0), (99, 3), (0, 0), (0, 0), (1, 165), (0, 0), (99, 3), (0, 0), (0, 0), (0, 0), (0, 0), (1, 166), (0, 0), (99, 3), (0, 0), (1, 166), (0, 0), (99, 3), (2, 183), (0, 0), (0, 0), (0, 0), (0, 0), (0, 0), (1, 168), (0, 0), (0, 0), (0, 0), (0, 0), (0, 0), (0, 0), (0, 0), (0, 0), (0, 0), (0, 0), (0, 0), (1, 168), (0, 0), (1, 157), (0, 0), (0, 0), (0, 0), (2, 184), (0, 0), (1, 157), (0, 0), (1, 168), (0, 0), (0, 0), (0, 0), (1, 159), (0, 0), (1, 168), (0, 0), (0, 0), (0, 0), (1, 161), (0, 0), (1, 168), (0, 0), (0, 0), (0, 0), (1, 163), (0, 0), (1, 168), (0, 0), (0, 0), (0, 0), (1, 165), (0, 0), (1, 168), (0, 0), (0, 0), (0, 0), (1, 166), (0, 0), (1, 168), (0, 0), (0, 0), (0, 0), (1, 167), (0, 0), (1, 168), (0, 0), (0, 0), (0, 0), (0, 0), (2, 188), (0, 0), (0, 0), (0, 0), (1, 168), (0, 0), (0, 0), (1, 168), (0, 0), (0, 0)] = true := by decide +kernel
theorem am_k44 : am_ckM am_tb am_hd am_m44 [(0, 0), (0, 0), (1, 157), (99, 2), (1, 157), (0, 0), (0, 0), (1, 159), (99, 2), (1, 159), (0, 0), (0, 0), (1, 161), (99, 2), (1, 161), (0, 0), (0, 0), (1, 163), (99, 2), (1, 163), (0, 0), (0, 0), (1, 165), (99, 2), (1, 165), (0, 0), (0, 0), (1, 166), (99, 2), (1, 166), (0, 0), (0, 0), (1, 167), (99, 2), (1, 167), (0, 0)] = true := by decide +kernel
theorem am_k45 : am_ckM am_tb am_hd am_m45 [(0, 0), (0, 0), (0, 0), (0, 0), (1, 167), (0, 0), (0, 0), (0, 0), (1, 167), (0, 0), (0, 0), (2, 183), (0, 0), (0, 0), (0, 0), (0, 0), (0, 0), (0, 0), (1, 167), (0, 0), (0, 0), (0, 0), (0, 0), (2, 183), (0, 0), (0, 0), (0, 0), (0, 0), (0, 0), (0, 0), (0, 0), (0, 0), (0, 0), (0, 0), (0, 0), (0, 0), (0, 0)] = true := by decide +kernel
theorem am_k46 : am_ckM am_tb am_hd am_m46 [(0, 0), (0, 0), (0, 0), (1, 170), (0, 0), (0, 0), (0, 0), (0, 0), (1, 171), (0, 0), (0, 0), (0, 0), (0, 0), (0, 0), (0, 0), (0, 0), (0, 0), (0, 0), (0, 0), (0, 0), (0, 0), (1, 170), (0, 0), (0, 0), (0, 0), (0, 0), (1, 171), (0, 0), (0, 0), (0, 0), (0, 0), (1, 157), (0, 0), (0, 0), (0, 0), (0, 0), (0, 0), (0, 0), (0, 0), (0, 0), (0, 0), (1, 159), (0, 0), (0, 0), (0, 0), (0, 0), (0, 0), (0, 0), (0, 0), (1, 167), (0, 0), (0, 0), (0, 0), (0, 0), (0, 0), (0, 0), (0, 0), (0, 0), (0, 0), (0, 0), (0, 0), (1, 157), (0, 0), (0, 0), (0, 0), (0, 0), (0, 0), (1, 170), (0, 0), (0, 0), (1, 163), (0, 0), (0, 0), (0, 0), (0, 0), (1, 171), (0, 0), (0, 0), (0, 0), (0, 0), (1, 170), (0, 0), (0, 0), (0, 0), (0, 0), (1, 161), (0, 0), (0, 0), (0, 0), (0, 0), (1, 171), (0, 0), (0, 0), (0, 0), (0, 0), (0, 0), (0, 0), (0, 0), (0, 0), (0, 0), (0, 0), (1, 157), (0, 0), (0, 0), (0, 0), (0, 0), (0, 0), (1, 170), (0, 0), (0, 0), (1, 161), (0, 0), (0, 0), (0, 0), (0, 0), (1, 171), (0, 0), (0, 0), (0, 0), (0, 0), (0, 0), (0, 0), (0, 0), (0, 0), (0, 0), (0, 0)] = true := by decide +kernel
theorem am_k47 : am_ckM am_tb am_hd am_m47 [(0, 0), (0, 0), (0, 0), (1, 170), (0, 0), (0, 0), (0, 0), (0, 0), (0, 0), (0, 0), (0, 0), (0, 0), (0, 0), (0, 0), (0, 0), (99, 31), (0, 0), (0, 0), (0, 0), (1, 170), (0, 0), (0, 0), (0, 0), (0, 0), (0, 0), (1, 157), (0, 0), (0, 0), (0, 0), (1, 159), (0, 0), (0, 0), (3, 18), (0, 0), (1, 157), (0, 0), (0, 0), (0, 0), (0, 0), (0, 0), (1, 170), (0, 0), (0, 0), (1, 163), (0, 0), (0, 0), (0, 0), (0, 0), (0, 0), (1, 157), (0, 0), (0, 0), (0, 0), (0, 0), (0, 0), (1, 157), (0, 0), (0, 0), (0, 0), (0, 0), (0, 0), (1, 170), (0, 0), (0, 0), (1, 161), (0, 0), (0, 0), (0, 0), (0, 0), (0, 0), (0, 0), (0, 0)] = true := by decide +kernel
theorem am_k48 : am_ckM am_tb am_hd am_m48 [(0, 0), (3, 61), (0, 0), (0, 0), (3, 62), (0, 0), (0, 0), (3, 64), (0, 0), (0, 0), (3, 66), (0, 0), (0, 0), (3, 68), (0, 0)] = true := by decide +kernel
theorem am_k49 : am_ckM am_tb am_hd am_m49 [(0, 0), (1, 206), (0, 0), (0, 0), (0, 0), (1, 208), (0, 0), (0, 0), (0, 0), (1, 211), (0, 0), (0, 0), (1, 214), (0, 0), (0, 0), (0, 0), (1, 217), (0, 0), (0, 0), (1, 221), (0, 0), (0, 0), (1, 223), (0, 0), (0, 0), (0, 0), (1, 227), (0, 0), (0, 0), (1, 207), (0, 0)] = true := by decide +kernel
theorem am_k50 : am_ckM am_tb am_hd am_m50 [(0, 0), (0, 0), (1, 221), (0, 0), (0, 0), (1, 217), (0, 0), (0, 0), (1, 214), (0, 0), (0, 0), (1, 223), (0, 0)] = true := by decide +kernel
theorem am_k51 : am_ckM am_tb am_hd am_m51 [(0, 0), (0, 0), (0, 0), (1, 214), (0, 0), (1, 217), (0, 0), (1, 221), (0, 0), (0, 0), (0, 0), (0, 0), (0, 0), (0, 0), (1, 223), (0, 0), (1, 223), (0, 0), (0, 0), (0, 0), (1, 214), (0, 0), (1, 208), (0, 0), (0, 0), (0, 0), (0, 0), (1, 208), (99, 4), (1, 208), (0, 0), (0, 0), (1, 211), (99, 4), (1, 211), (0, 0), (1, 208), (0, 0), (1, 214), (0, 0), (0, 0), (0, 0), (1, 211), (0, 0), (1, 214), (0, 0), (0, 0), (0, 0), (0, 0), (1, 214), (0, 0), (0, 0), (1, 214), (0, 0)] = true := by decide +kernel
theorem am_k52 : am_ckM am_tb am_hd am_m52 [(0, 0), (1, 207), (0, 0), (0, 0), (0, 0), (3, 8), (0, 0), (0, 0), (0, 0), (0, 0), (3, 9), (0, 0), (0, 0), (0, 0), (3, 9), (0, 0), (0, 0), (0, 0), (1, 207), (0, 0), (0, 0), (0, 0), (3, 8), (3, 9), (0, 0)] = true := by decide +kernel
theorem am_k53 : am_ckM am_tb am_hd am_m53 [(0, 0), (0, 0), (0, 0), (1, 207), (0, 0), (4, 5), (3, 9), (0, 0), (0, 0), (0, 0), (3, 9), (0, 0)] = true := by decide +kernel
theorem am_k54 : am_ckM am_tb am_hd am_m54 [(0, 0), (0, 0), (0, 0), (0, 0), (0, 0), (0, 0), (1, 223), (0, 0), (0, 0), (0, 0), (1, 208), (0, 0), (0, 0), (0, 0), (1, 211), (0, 0), (0, 0), (3, 9), (0, 0), (0, 0), (0, 0)] = true := by decide +kernel
theorem am_k55 : am_ckM am_tb am_hd am_m55 [(0, 0), (0, 0), (0, 0), (0, 0), (0, 0), (0, 0), (1, 223), (0, 0), (0, 0), (0, 0), (1, 208), (0, 0), (0, 0), (0, 0), (1, 207), (99, 6), (0, 0), (1, 211), (0, 0), (0, 0), (0, 0), (3, 9), (0, 0), (0, 0), (0, 0)] = true := by decide +kernel
theorem am_k56 : am_ckM am_tb am_hd am_m56 [(0, 0), (0, 0), (0, 0), (0, 0), (0, 0), (0, 0), (0, 0), (0, 0), (0, 0), (0, 0), (1, 223), (0, 0), (0, 0), (1, 208), (0, 0), (0, 0), (0, 0), (0, 0), (0, 0), (0, 0), (0, 0), (0, 0), (0, 0), (0, 0), (0, 0), (0, 0), (0, 0), (0, 0), (0, 0), (1, 211), (0, 0), (0, 0), (0, 0), (0, 0), (0, 0), (0, 0), (0, 0), (3, 9), (0, 0), (0, 0), (0, 0), (0, 0), (0, 0), (0, 0), (0, 0), (0, 0), (0, 0), (3, 9), (0, 0), (0, 0), (0, 0), (0, 0), (1, 211), (0, 0), (0, 0), (3, 9), (0, 0), (0, 0), (0, 0), (0, 0), (1, 227), (0, 0), (0, 0), (0, 0), (0, 0), (0, 0), (0, 0), (0, 0), (0, 0), (0, 0), (0, 0), (0, 0), (0, 0), (0, 0), (0, 0), (1, 227), (0, 0), (0, 0), (0, 0), (0, 0), (0, 0), (0, 0)] = true := by decide +kernel
theorem am_k57 : am_ckM am_tb am_hd am_m57 [(0, 0), (0, 0), (1, 217), (0, 0), (1, 221), (0, 0), (1, 214), (0, 0)] = true := by decide +kernel
theorem am_k58 : am_ckM am_tb am_hd am_m58 [(0, 0), (1, 223), (0, 0), (0, 0), (0, 0), (1, 217), (0, 0), (1, 221), (0, 0), (0, 0), (1, 214), (3, 27), (0, 0), (0, 0), (1, 214), (0, 0), (0, 0), (0, 0), (0, 0), (1, 223), (0, 0), (0, 0), (1, 221), (0, 0), (0, 0), (0, 0), (1, 217), (0, 0), (0, 0), (0, 0), (0, 0), (1, 217), (99, 4), (1, 217), (0, 0), (0, 0), (1, 221), (0, 0), (0, 0), (1, 221), (0, 0), (1, 217), (0, 0), (1, 221), (0, 0), (1, 214), (0, 0), (0, 0)] = true := by decide +kernel
theorem am_k59 : am_ckM am_tb am_hd am_m59 [(0, 0), (0, 0), (0, 0), (0, 0), (0, 0), (0, 0), (0, 0), (0, 0), (0, 0), (0, 0), (0, 0), (0, 0), (0, 0), (0, 0), (0, 0), (1, 208), (0, 0), (0, 0), (0, 0), (0, 0), (0, 0), (0, 0), (1, 227), (0, 0), (0, 0), (0, 0), (0, 0), (0, 0), (0, 0), (1, 208), (0, 0), (0, 0), (0, 0), (0, 0), (0, 0), (0, 0), (0, 0), (0, 0), (0, 0), (0, 0), (1, 227), (0, 0), (0, 0), (0, 0), (0, 0), (0, 0), (0, 0), (0, 0)] = true := by decide +kernel
theorem am_k60 : am_ckM am_tb am_hd am_m60 [(0, 0), (0, 0), (0, 0), (0, 0), (0, 0), (0, 0), (0, 0), (0, 0), (0, 0), (0, 0), (0, 0), (0, 0), (0, 0), (0, 0), (0, 0), (0, 0), (0, 0), (0, 0), (0, 0), (1, 208), (0, 0), (0, 0), (0, 0), (1, 208), (0, 0), (0, 0), (0, 0), (0, 0), (0, 0), (0, 0), (1, 211), (0, 0), (0, 0), (0, 0), (1, 211), (0, 0), (0, 0), (0, 0), (0, 0), (0, 0), (0, 0), (0, 0), (0, 0), (0, 0), (0, 0), (0, 0)] = true := by decide +kernel
theorem am_k61 : am_ckM am_tb am_hd am_m61 [(0, 0), (0, 0), (1, 217), (0, 0), (0, 0), (0, 0), (1, 217), (0, 0), (0, 0), (0, 0), (0, 0), (0, 0), (1, 217), (0, 0), (0, 0), (0, 0), (1, 217), (0, 0), (0, 0), (0, 0), (0, 0), (3, 92), (0, 0)] = true := by decide +kernel
theorem am_k62 : am_ckM am_tb am_hd am_m62 [(0, 0), (0, 0), (0, 0), (0, 0), (0, 0), (0, 0), (0, 0), (0, 0), (1, 214), (0, 0), (0, 0), (1, 208), (0, 0), (0, 0), (0, 0), (0, 0), (0, 0), (0, 0), (0, 0), (1, 208), (0, 0), (0, 0), (0, 0), (0, 0), (0, 0), (0, 0), (0, 0), (0, 0), (0, 0)] = true := by decide +kernel
theorem am_k63 : am_ckM am_tb am_hd am_m63 [(0, 0), (1, 217), (0, 0), (0, 0), (0, 0), (0, 0), (1, 217), (0, 0), (0, 0), (0, 0), (0, 0), (0, 0), (0, 0), (0, 0), (0, 0), (0, 0), (0, 0), (0, 0), (1, 208), (0, 0), (0, 0), (0, 0), (0, 0), (0, 0), (1, 208), (0, 0), (0, 0), (0, 0), (0, 0), (0, 0), (0, 0), (0, 0), (1, 208), (0, 0), (0, 0), (0, 0), (0, 0), (0, 0), (0, 0), (0, 0), (0, 0), (3, 52), (0, 0), (0, 0), (0, 0), (0, 0), (0, 0), (0, 0), (0, 0), (0, 0), (3, 54), (0, 0), (0, 0), (1, 211), (0, 0), (0, 0), (0, 0), (0, 0), (3, 58), (0, 0)] = true := by decide +kernel
theorem am_k64 : am_ckM am_tb am_hd am_m64 [(0, 0), (0, 0), (0, 0), (0, 0), (0, 0), (0, 0), (1, 208), (0, 0), (0, 0), (0, 0), (0, 0), (0, 0), (1, 211), (0, 0), (0, 0), (0, 0), (0, 0), (0, 0), (0, 0), (0, 0), (0, 0), (0, 0), (0, 0)] = true := by decide +kernel
theorem am_k65 : am_ckM am_tb am_hd am_m65 [(0, 0), (0, 0), (0, 0), (0, 0), (0, 0), (0, 0), (1, 208), (0, 0), (0, 0), (0, 0), (0, 0), (1, 208), (0, 0), (0, 0), (0, 0), (0, 0), (0, 0), (0, 0), (0, 0), (0, 0), (0, 0), (0, 0), (0, 0), (0, 0)] = true := by decide +kernel
theorem am_k66 : am_ckM am_tb am_hd am_m66 [(0, 0), (0, 0), (0, 0), (0, 0), (0, 0), (0, 0), (1, 207), (0, 0), (1, 211), (0, 0), (0, 0), (3, 164), (0, 0), (0, 0), (0, 0)] = true := by decide +kernel
theorem am_k67 : am_ckM am_tb am_hd am_m67 [(0, 0), (2, 10), (0, 0), (0, 0), (2, 14), (0, 0), (0, 0), (2, 16), (0, 0), (0, 0), (0, 0), (2, 17), (0, 0), (0, 0), (0, 0), (2, 20), (0, 0), (0, 0), (0, 0), (2, 22), (0, 0), (0, 0), (0, 0), (2, 24), (0, 0), (0, 0), (2, 11), (0, 0), (0, 0), (2, 12), (0, 0), (0, 0), (2, 13), (0, 0), (2, 20), (0, 0), (0, 0), (99, 7), (0, 0), (0, 0)] = true := by decide +kernel
theorem am_k68 : am_ckM am_tb am_hd am_m68 [(0, 0), (0, 0), (0, 0), (0, 0), (2, 14), (0, 0), (0, 0), (0, 0), (0, 0), (0, 0)] = true := by decide +kernel
theorem am_k69 : am_ckM am_tb am_hd am_m69 [(0, 0), (2, 17), (0, 0), (0, 0), (0, 0), (0, 0), (0, 0), (0, 0), (0, 0)] = true := by decide +kernel
theorem am_k70 : am_ckM am_tb am_hd am_m70 [(0, 0), (0, 0), (3, 87), (0, 0), (2, 17), (0, 0), (0, 0), (0, 0), (0, 0)] = true := by decide +kernel
theorem am_k71 : am_ckM am_tb am_hd am_m71 [(0, 0), (0, 0), (4, 174), (0, 0), (0, 0), (0, 0), (0, 0), (0, 0), (0, 0), (0, 0), (4, 175), (0, 0), (0, 0), (0, 0), (0, 0), (0, 0), (0, 0), (0, 0), (0, 0), (3, 87), (0, 0), (0, 0), (2, 17), (0, 0), (0, 0), (0, 0), (0, 0), (0, 0), (0, 0), (2, 13), (99, 26), (0, 0), (0, 0), (0, 0), (0, 0), (0, 0), (2, 13), (99, 26), (0, 0), (0, 0), (0, 0), (0, 0), (0, 0), (0, 0), (0, 0), (0, 0), (0, 0), (0, 0), (0, 0), (0, 0), (2, 13), (99, 26), (0, 0), (0, 0), (0, 0), (0, 0), (0, 0)] = true := by decide +kernel
theorem am_k72 : am_ckM am_tb am_hd am_m72 [(0, 0), (0, 0), (2, 16), (0, 0), (0, 0), (0, 0), (2, 14), (0, 0), (0, 0), (0, 0), (0, 0), (0, 0)] = true := by decide +kernel
theorem am_k73 : am_ckM am_tb am_hd am_m73 [(0, 0), (0, 0), (2, 14), (0, 0), (2, 13), (0, 0), (2, 17), (0, 0), (0, 0), (4, 64), (0, 0)] = true := by decide +kernel
theorem am_k74 : am_ckM am_tb am_hd am_m74 [(0, 0), (2, 17), (0, 0), (0, 0), (0, 0), (0, 0), (0, 0), (0, 0), (3, 87), (0, 0), (0, 0), (2, 13), (99, 30), (0, 0), (0, 0), (0, 0), (0, 0), (0, 0), (2, 13), (0, 0), (0, 0), (3, 88), (0, 0), (0, 0), (2, 13), (0, 0), (2, 13), (99, 26), (0, 0), (0, 0), (0, 0), (2, 13), (99, 26), (0, 0), (0, 0), (0, 0), (0, 0), (3, 93), (0, 0), (3, 97), (0, 0), (0, 0), (0, 0)] = true := by decide +kernel
theorem am_k75 : am_ckM am_tb am_hd am_m75 [(0, 0), (2, 13), (99, 30), (0, 0), (0, 0), (0, 0), (2, 17), (0, 0), (2, 14), (0, 0), (0, 0), (0, 0), (0, 0), (2, 13), (99, 28), (0, 0), (0, 0), (2, 13), (0, 0), (2, 13), (99, 26), (0, 0), (0, 0), (0, 0), (2, 13), (99, 26), (0, 0), (0, 0), (0, 0), (0, 0), (0, 0), (2, 13), (99, 26), (0, 0), (2, 13), (99, 28), (0, 0), (0, 0), (2, 13), (99, 24), (3, 101), (0, 0), (0, 0), (2, 13), (3, 102), (0, 0), (0, 0), (0, 0), (0, 0), (2, 13), (3, 23), (0, 0), (2, 13), (99, 28), (0, 0), (2, 17), (0, 0), (2, 14), (0, 0), (0, 0), (0, 0), (0, 0), (0, 0), (2, 13), (0, 0), (99, 30), (0, 0)] = true := by decide +kernel
theorem am_k76 : am_ckM am_tb am_hd am_m76 [(0, 0), (2, 13), (3, 23), (0, 0), (2, 13), (99, 30), (0, 0), (0, 0), (2, 14), (0, 0), (0, 0), (0, 0), (0, 0), (0, 0), (2, 14), (0, 0), (0, 0), (0, 0), (2, 17), (0, 0), (0, 0), (0, 0), (0, 0), (2, 17), (99, 5), (2, 17), (0, 0), (0, 0), (2, 20), (99, 5), (2, 20), (0, 0), (0, 0), (2, 22), (99, 5), (2, 22), (0, 0), (0, 0), (2, 24), (99, 5), (2, 24), (0, 0), (0, 0), (2, 14), (0, 0), (0, 0), (2, 14), (0, 0), (2, 17), (0, 0), (2, 14), (0, 0), (2, 13), (99, 28), (0, 0), (0, 0), (2, 20), (0, 0), (2, 14), (0, 0), (2, 11), (99, 7), (0, 0), (0, 0), (2, 22), (0, 0), (2, 14), (0, 0), (2, 12), (99, 13), (0, 0), (0, 0), (2, 24), (0, 0), (2, 14), (0, 0), (2, 12), (99, 18), (0, 0), (0, 0), (0, 0)] = true := by decide +kernel
theorem am_k77 : am_ckM am_tb am_hd am_m77 [(0, 0), (3, 219), (0, 0), (0, 0), (0, 0), (0, 0), (0, 0), (2, 14), (2, 16), (0, 0), (0, 0)] = true := by decide +kernel
theorem am_k78 : am_ckM am_tb am_hd am_m78 [(0, 0), (2, 50), (0, 0), (0, 0), (2, 51), (0, 0), (0, 0), (2, 52), (0, 0), (0, 0), (2, 53), (0, 0), (0, 0), (2, 54), (0, 0), (0, 0), (2, 55), (0, 0)] = true := by decide +kernel
theorem am_k79 : am_ckM am_tb am_hd am_m79 [(0, 0), (2, 53), (0, 0), (3, 0), (0, 0), (0, 0), (0, 0), (0, 0), (2, 54), (0, 0), (2, 53), (99, 15), (0, 0), (0, 0), (3, 4), (0, 0), (2, 53), (0, 0), (2, 54), (0, 0), (3, 14), (0, 0), (2, 53), (0, 0), (2, 54), (0, 0), (3, 14), (0, 0), (2, 55), (3, 19), (0, 0)] = true := by decide +kernel
theorem am_k80 : am_ckM am_tb am_hd am_m80 [(0, 0), (0, 0), (3, 36), (0, 0), (0, 0), (0, 0), (3, 36), (0, 0), (0, 0), (0, 0), (0, 0), (0, 0), (0, 0), (2, 54), (0, 0), (99, 39), (0, 0), (99, 40), (0, 0), (99, 38), (0, 0), (99, 39), (3, 79), (0, 0), (0, 0), (0, 0), (0, 0), (2, 55), (0, 0), (0, 0), (3, 83), (0, 0), (2, 55), (0, 0), (0, 0), (3, 83), (0, 0), (2, 54), (0, 0), (99, 41), (3, 4), (0, 0), (2, 54), (0, 0), (99, 38), (0, 0), (99, 39), (3, 106), (0, 0), (2, 54), (0, 0), (99, 39), (0, 0), (99, 40), (3, 106), (0, 0), (2, 55), (3, 19), (0, 0)] = true := by decide +kernel
theorem am_k81 : am_ckM am_tb am_hd am_m81 [(0, 0), (0, 0), (3, 36), (0, 0), (0, 0), (0, 0), (3, 36), (0, 0), (0, 0), (0, 0), (0, 0), (0, 0), (0, 0), (2, 51), (0, 0), (99, 41), (3, 111), (0, 0), (0, 0), (2, 51), (99, 1), (0, 0), (99, 41), (0, 0), (0, 0), (99, 41), (0, 0), (0, 0), (0, 0), (0, 0), (2, 51), (99, 3), (0, 0), (99, 41), (0, 0), (0, 0), (0, 0), (2, 55), (0, 0), (0, 0), (3, 83), (0, 0), (2, 55), (0, 0), (0, 0), (3, 83), (0, 0), (2, 54), (0, 0), (3, 4), (0, 0), (2, 54), (0, 0), (0, 0), (3, 112), (0, 0), (2, 54), (0, 0), (99, 38), (0, 0), (99, 39), (3, 106), (0, 0), (2, 54), (0, 0), (99, 38), (0, 0), (99, 39), (3, 106), (0, 0), (2, 54), (0, 0), (0, 0), (3, 112), (0, 0), (2, 54), (0, 0), (99, 39), (0, 0), (99, 40), (3, 106), (0, 0), (2, 54), (0, 0), (99, 39), (0, 0), (99, 40), (3, 106), (0, 0), (2, 55), (3, 19), (0, 0)] = true := by decide +kernel
theorem am_k82 : am_ckM am_tb am_hd am_m82 [(0, 0), (0, 0), (3, 36), (0, 0), (0, 0), (0, 0), (0, 0), (2, 53), (0, 0), (3, 117), (0, 0), (0, 0), (0, 0), (0, 0), (2, 53), (99, 14), (0, 0), (0, 0), (0, 0), (0, 0), (2, 53), (99, 15), (0, 0), (0, 0), (0, 0), (0, 0), (2, 54), (99, 25), (0, 0), (2, 55), (99, 33), (0, 0), (0, 0), (0, 0), (0, 0), (0, 0), (2, 54), (99, 25), (0, 0), (2, 55), (0, 0), (3, 44), (0, 0), (0, 0), (0, 0), (2, 54), (0, 0), (0, 0), (0, 0), (0, 0), (3, 121), (0, 0), (0, 0), (0, 0), (0, 0), (2, 51), (0, 0), (0, 0), (0, 0), (99, 41), (3, 125), (0, 0), (0, 0), (2, 55), (0, 0), (0, 0), (3, 83), (0, 0), (2, 54), (0, 0), (3, 4), (0, 0), (2, 54), (0, 0), (0, 0), (3, 112), (0, 0), (2, 54), (0, 0), (99, 38), (0, 0), (99, 39), (0, 0), (0, 0), (0, 0), (3, 126), (0, 0), (2, 54), (0, 0), (0, 0), (3, 112), (0, 0), (2, 54), (0, 0), (99, 39), (0, 0), (99, 40), (0, 0), (0, 0), (0, 0), (3, 126), (0, 0), (2, 55), (3, 19), (0, 0)] = true := by decide +kernel
theorem am_k83 : am_ckM am_tb am_hd am_m83 [(0, 0), (2, 53), (0, 0), (3, 0), (0, 0), (0, 0), (2, 53), (99, 14), (0, 0), (0, 0), (0, 0), (0, 0), (0, 0), (0, 0), (0, 0), (2, 53), (99, 16), (0, 0), (0, 0), (0, 0), (0, 0), (2, 53), (99, 17), (0, 0), (0, 0), (0, 0), (0, 0), (2, 53), (99, 14), (0, 0), (0, 0), (0, 0), (0, 0), (0, 0), (2, 53), (0, 0), (3, 117), (0, 0), (0, 0), (0, 0), (0, 0), (2, 54), (0, 0), (2, 53), (99, 15), (0, 0), (0, 0), (3, 4), (0, 0), (2, 54), (99, 23), (0, 0), (0, 0), (2, 53), (0, 0), (2, 54), (0, 0), (3, 14), (0, 0), (2, 54), (99, 29), (0, 0), (0, 0), (0, 0), (0, 0), (2, 54), (0, 0), (0, 0), (0, 0), (0, 0), (2, 54), (99, 23), (0, 0), (0, 0), (0, 0), (0, 0), (2, 53), (99, 14), (0, 0), (0, 0), (0, 0), (2, 53), (99, 15), (0, 0), (0, 0), (3, 126), (0, 0), (2, 55), (3, 19), (0, 0)] = true := by decide +kernel
theorem am_k84 : am_ckM am_tb am_hd am_m84 [(0, 0), (2, 53), (0, 0), (3, 0), (0, 0), (0, 0), (2, 53), (99, 15), (0, 0), (0, 0), (0, 0), (0, 0), (0, 0), (0, 0), (0, 0), (2, 53), (0, 0), (2, 54), (0, 0), (3, 14), (0, 0), (2, 55), (3, 138), (0, 0), (2, 53), (0, 0), (2, 54), (0, 0), (3, 14), (0, 0), (2, 55), (3, 19), (0, 0)] = true := by decide +kernel
theorem am_k85 : am_ckM am_tb am_hd am_m85 [(0, 0), (0, 0), (3, 36), (0, 0), (0, 0), (0, 0), (0, 0), (2, 55), (0, 0), (3, 40), (0, 0), (0, 0), (0, 0), (0, 0), (2, 55), (0, 0), (3, 44), (0, 0), (0, 0), (2, 54), (0, 0), (99, 38), (0, 0), (99, 39), (0, 0), (2, 54), (99, 25), (0, 0), (0, 0), (0, 0), (2, 54), (99, 25), (0, 0), (0, 0), (0, 0), (0, 0), (3, 79), (0, 0), (0, 0), (0, 0), (0, 0), (2, 55), (0, 0), (0, 0), (3, 83), (0, 0), (2, 55), (0, 0), (0, 0), (3, 83), (0, 0), (2, 54), (0, 0), (99, 39), (0, 0), (99, 40), (3, 106), (0, 0), (2, 55), (3, 19), (0, 0)] = true := by decide +kernel
theorem am_k86 : am_ckM am_tb am_hd am_m86 [(0, 0), (2, 55), (0, 0), (3, 40), (0, 0), (0, 0), (2, 55), (0, 0), (3, 40), (0, 0), (0, 0), (0, 0), (0, 0), (2, 55), (0, 0), (3, 44), (0, 0), (0, 0), (2, 55), (0, 0), (3, 44), (0, 0), (0, 0), (2, 55), (0, 0), (0, 0), (3, 83), (0, 0), (2, 55), (0, 0), (0, 0), (3, 83), (0, 0), (2, 54), (0, 0), (3, 4), (0, 0), (2, 54), (0, 0), (2, 54), (99, 25), (0, 0), (0, 0), (0, 0), (2, 54), (99, 25), (0, 0), (0, 0), (0, 0), (0, 0), (3, 106), (0, 0), (2, 54), (0, 0), (2, 54), (99, 25), (0, 0), (0, 0), (0, 0), (2, 54), (99, 25), (0, 0), (0, 0), (0, 0), (0, 0), (3, 106), (0, 0), (2, 55), (3, 19), (0, 0)] = true := by decide +kernel
theorem am_k87 : am_ckM am_tb am_hd am_m87 [(0, 0), (2, 55), (0, 0), (3, 40), (0, 0), (0, 0), (2, 53), (0, 0), (3, 117), (0, 0), (0, 0), (2, 53), (0, 0), (3, 0), (0, 0), (0, 0), (2, 53), (99, 15), (0, 0), (0, 0), (0, 0), (2, 53), (99, 15), (0, 0), (0, 0), (0, 0), (0, 0), (0, 0), (0, 0), (2, 55), (0, 0), (3, 44), (0, 0), (0, 0), (2, 55), (99, 33), (0, 0), (0, 0), (0, 0), (0, 0), (0, 0), (0, 0), (0, 0), (2, 54), (99, 29), (0, 0), (0, 0), (0, 0), (0, 0), (0, 0), (3, 151), (0, 0), (2, 55), (3, 138), (0, 0), (0, 0), (0, 0), (0, 0), (0, 0), (0, 0), (3, 151), (0, 0), (2, 55), (3, 19), (0, 0)] = true := by decide +kernel
theorem am_k88 : am_ckM am_tb am_hd am_m88 [(0, 0), (2, 54), (99, 25), (0, 0), (0, 0), (0, 0), (0, 0), (0, 0), (0, 0), (2, 54), (99, 25), (0, 0), (0, 0), (0, 0), (0, 0), (0, 0), (0, 0), (0, 0), (2, 54), (99, 29), (0, 0), (0, 0), (2, 54), (99, 20), (0, 0), (0, 0), (0, 0), (2, 53), (99, 14), (0, 0), (0, 0), (0, 0), (0, 0), (2, 54), (99, 22), (0, 0), (0, 0), (0, 0), (2, 53), (99, 15), (0, 0), (0, 0), (0, 0), (0, 0), (2, 53), (0, 0), (2, 54), (0, 0), (3, 14), (0, 0), (0, 0), (2, 54), (0, 0), (2, 54), (99, 20), (0, 0), (0, 0), (0, 0), (2, 54), (99, 22), (0, 0), (0, 0), (3, 112), (0, 0), (0, 0), (0, 0)] = true := by decide +kernel
theorem am_k89 : am_ckM am_tb am_hd am_m89 [(0, 0), (2, 55), (0, 0), (3, 40), (0, 0), (0, 0), (0, 0), (0, 0), (2, 55), (0, 0), (3, 44), (0, 0), (0, 0), (2, 51), (3, 159), (0, 0), (2, 54), (0, 0), (2, 54), (99, 25), (0, 0), (2, 55), (99, 33), (0, 0), (0, 0), (0, 0), (0, 0), (2, 54), (99, 25), (0, 0), (0, 0), (0, 0), (0, 0), (3, 160), (0, 0), (2, 51), (3, 168), (0, 0), (0, 0), (0, 0), (0, 0), (0, 0), (0, 0), (0, 0), (0, 0), (0, 0), (0, 0), (0, 0), (0, 0), (0, 0), (0, 0), (0, 0), (0, 0), (0, 0), (0, 0), (0, 0), (0, 0), (0, 0), (0, 0), (0, 0), (0, 0), (99, 6), (0, 0), (0, 0), (2, 53), (0, 0), (3, 174), (0, 0), (0, 0), (0, 0), (0, 0), (0, 0), (3, 175), (0, 0), (0, 0), (0, 0), (0, 0), (2, 51), (0, 0), (0, 0), (2, 53), (99, 12), (0, 0), (0, 0), (3, 178), (0, 0), (0, 0), (0, 0), (2, 51), (3, 182), (0, 0), (0, 0), (0, 0), (0, 0), (2, 55), (99, 33), (0, 0), (0, 0), (0, 0), (0, 0), (0, 0), (0, 0), (0, 0), (2, 54), (99, 29), (0, 0), (0, 0), (2, 54), (0, 0), (2, 54), (99, 25), (0, 0), (0, 0), (0, 0), (2, 54), (99, 25), (0, 0), (0, 0), (0, 0), (0, 0), (3, 190), (0, 0), (2, 55), (3, 138), (0, 0), (0, 0), (0, 0), (2, 54), (0, 0), (2, 54), (99, 25), (0, 0), (0, 0), (0, 0), (2, 54), (99, 25), (0, 0), (0, 0), (0, 0), (0, 0), (3, 190), (0, 0), (2, 55), (3, 19), (0, 0)] = true := by decide +kernel
theorem am_k90 : am_ckM am_tb am_hd am_m90 [(0, 0), (0, 0), (0, 0), (0, 0), (0, 0), (0, 0), (0, 0), (0, 0), (0, 0), (0, 0), (0, 0), (0, 0), (0, 0), (0, 0), (0, 0), (0, 0), (0, 0), (0, 0), (0, 0), (0, 0)] = true := by decide +kernel
theorem am_k91 : am_ckM am_tb am_hd am_m91 [(0, 0), (2, 53), (0, 0), (3, 0), (0, 0), (0, 0), (0, 0), (0, 0), (2, 53), (99, 15), (0, 0), (0, 0), (0, 0), (0, 0), (2, 52), (0, 0), (3, 198), (0, 0), (0, 0), (0, 0), (0, 0), (0, 0), (0, 0), (0, 0), (2, 54), (0, 0), (3, 4), (0, 0), (2, 54), (0, 0), (0, 0), (0, 0), (0, 0), (0, 0), (0, 0), (3, 112), (0, 0), (2, 54), (99, 23), (0, 0), (0, 0), (2, 53), (0, 0), (2, 54), (0, 0), (3, 14), (0, 0), (2, 54), (99, 29), (0, 0), (0, 0), (2, 54), (0, 0), (0, 0), (2, 54), (99, 23), (3, 202), (0, 0), (0, 0), (0, 0), (0, 0), (2, 54), (99, 23), (0, 0), (3, 206), (0, 0), (0, 0), (0, 0), (0, 0), (2, 55), (3, 215), (0, 0)] = true := by decide +kernel
theorem am_k92 : am_ckM am_tb am_hd am_m92 [(0, 0), (2, 51), (3, 159), (0, 0), (2, 51), (0, 0), (3, 210), (0, 0), (2, 51), (3, 168), (0, 0), (2, 51), (3, 211), (0, 0), (0, 0), (2, 51), (3, 159), (0, 0), (2, 54), (0, 0), (0, 0), (3, 160), (0, 0), (2, 51), (3, 168), (0, 0), (2, 51), (3, 211), (0, 0), (0, 0), (0, 0), (0, 0), (0, 0), (0, 0)] = true := by decide +kernel
theorem am_k93 : am_ckM am_tb am_hd am_m93 [(0, 0), (2, 55), (0, 0), (3, 40), (0, 0), (0, 0), (2, 55), (0, 0), (3, 224), (0, 0), (0, 0), (0, 0), (0, 0), (2, 54), (99, 25), (0, 0), (2, 55), (0, 0), (3, 44), (0, 0), (0, 0), (0, 0), (2, 54), (99, 20), (0, 0), (0, 0), (0, 0), (0, 0), (0, 0), (0, 0), (0, 0), (2, 54), (0, 0), (0, 0), (0, 0), (3, 228), (0, 0), (0, 0), (2, 54), (0, 0), (0, 0), (0, 0), (0, 0), (3, 202), (0, 0), (0, 0), (0, 0), (0, 0), (0, 0), (0, 0), (0, 0), (0, 0), (3, 229), (0, 0), (0, 0), (2, 54), (99, 22), (0, 0), (0, 0), (0, 0), (0, 0), (2, 51), (0, 0), (0, 0), (0, 0), (3, 125), (0, 0), (0, 0), (2, 51), (0, 0), (0, 0), (0, 0), (3, 125), (0, 0), (0, 0), (2, 52), (0, 0), (3, 198), (0, 0), (0, 0), (2, 52), (0, 0), (3, 198), (0, 0), (0, 0), (0, 0), (0, 0), (0, 0), (0, 0), (0, 0), (0, 0), (0, 0), (0, 0), (0, 0), (0, 0), (0, 0), (0, 0), (2, 54), (0, 0), (3, 4), (0, 0), (2, 54), (0, 0), (0, 0), (0, 0), (0, 0), (0, 0), (0, 0), (4, 1), (0, 0), (2, 54), (0, 0), (0, 0), (0, 0), (0, 0), (0, 0), (0, 0), (4, 1), (0, 0), (2, 54), (0, 0), (0, 0), (3, 112), (0, 0), (2, 54), (0, 0), (0, 0), (3, 112), (0, 0), (2, 55), (3, 19), (0, 0), (0, 0), (0, 0), (0, 0), (2, 54), (0, 0), (3, 4), (0, 0), (2, 54), (0, 0), (0, 0), (3, 112), (0, 0), (2, 54), (0, 0), (0, 0), (0, 0), (0, 0), (3, 106), (0, 0), (2, 54), (0, 0), (0, 0), (3, 112), (0, 0), (2, 54), (0, 0), (3, 4), (0, 0), (2, 54), (0, 0), (0, 0), (0, 0), (0, 0), (0, 0), (0, 0), (4, 1), (0, 0), (2, 54), (0, 0), (0, 0), (0, 0), (0, 0), (0, 0), (0, 0), (4, 1), (0, 0), (2, 54), (0, 0), (0, 0), (3, 112), (0, 0), (2, 54), (0, 0), (0, 0), (3, 112), (0, 0), (2, 55), (3, 215), (0, 0)] = true := by decide +kernel
theorem am_k94 : am_ckM am_tb am_hd am_m94 [(0, 0), (2, 51), (3, 159), (0, 0), (2, 54), (0, 0), (0, 0), (3, 160), (0, 0), (2, 51), (3, 168), (0, 0), (2, 51), (3, 211), (0, 0), (0, 0), (0, 0), (0, 0), (0, 0), (0, 0), (0, 0), (2, 52), (0, 0), (3, 233), (0, 0), (0, 0), (0, 0), (0, 0), (0, 0), (0, 0), (0, 0), (2, 51), (0, 0), (3, 237), (0, 0), (0, 0), (0, 0), (0, 0), (0, 0), (0, 0), (0, 0), (2, 51), (0, 0), (2, 51), (99, 0), (0, 0), (0, 0), (0, 0), (3, 237), (0, 0), (0, 0), (2, 51), (0, 0), (0, 0), (0, 0), (3, 125), (0, 0)] = true := by decide +kernel
theorem am_k95 : am_ckM am_tb am_hd am_m95 [(0, 0), (2, 55), (0, 0), (3, 40), (0, 0), (0, 0), (2, 54), (0, 0), (2, 55), (0, 0), (3, 44), (3, 48), (0, 0), (0, 0), (0, 0)] = true := by decide +kernel
theorem am_k96 : am_ckM am_tb am_hd am_m96 [(0, 0), (2, 72), (0, 0), (2, 73), (2, 77), (0, 0), (0, 0), (0, 0), (2, 78), (0, 0), (0, 0), (0, 0), (2, 79), (0, 0), (0, 0), (2, 75), (0, 0), (0, 0), (2, 76), (0, 0)] = true := by decide +kernel
theorem am_k97 : am_ckM am_tb am_hd am_m97 [(0, 0), (0, 0), (0, 0), (0, 0), (0, 0), (0, 0), (0, 0), (0, 0), (2, 79), (0, 0), (4, 14), (0, 0), (2, 78), (0, 0), (0, 0), (0, 0), (0, 0), (2, 78), (0, 0), (0, 0), (0, 0), (0, 0), (0, 0), (2, 75), (0, 0), (0, 0), (0, 0), (4, 15), (0, 0), (0, 0), (0, 0), (0, 0), (2, 78), (0, 0), (0, 0), (2, 78), (0, 0), (0, 0), (0, 0), (0, 0), (0, 0), (0, 0), (2, 73), (2, 77), (0, 0), (2, 78), (0, 0), (0, 0), (2, 75), (0, 0), (0, 0), (0, 0), (2, 75), (0, 0), (0, 0), (0, 0), (4, 15), (4, 15), (0, 0), (0, 0), (0, 0), (0, 0), (0, 0), (0, 0), (4, 16), (2, 77), (0, 0), (2, 78), (0, 0), (0, 0), (2, 75), (0, 0), (0, 0), (0, 0), (4, 15), (0, 0), (0, 0), (2, 78), (0, 0), (0, 0), (2, 75), (0, 0), (0, 0), (2, 78), (0, 0), (0, 0), (0, 0), (4, 15), (0, 0), (0, 0), (0, 0), (4, 18), (2, 77), (0, 0), (2, 78), (0, 0), (0, 0), (2, 75), (0, 0), (0, 0), (2, 78), (0, 0), (0, 0), (0, 0), (2, 78), (0, 0), (0, 0), (4, 15), (0, 0), (0, 0), (0, 0)] = true := by decide +kernel
theorem am_k98 : am_ckM am_tb am_hd am_m98 [(0, 0), (0, 0), (2, 77), (0, 0), (0, 0), (0, 0), (0, 0), (0, 0), (0, 0), (0, 0), (0, 0), (0, 0), (4, 24), (0, 0), (0, 0), (2, 77), (0, 0), (0, 0), (0, 0), (0, 0), (2, 76), (0, 0), (0, 0), (0, 0), (4, 28), (4, 33), (0, 0), (0, 0), (0, 0), (4, 34), (0, 0), (0, 0), (0, 0), (4, 34), (0, 0), (0, 0), (0, 0), (0, 0), (0, 0), (4, 35), (0, 0), (0, 0), (2, 76), (0, 0), (0, 0), (4, 28), (4, 39), (0, 0), (0, 0), (0, 0), (4, 34), (0, 0), (0, 0), (0, 0), (4, 34), (0, 0), (0, 0), (0, 0), (0, 0), (0, 0), (4, 40), (0, 0), (0, 0), (2, 76), (0, 0), (4, 39), (0, 0), (0, 0), (0, 0), (0, 0), (4, 40), (0, 0), (0, 0), (0, 0), (4, 34), (0, 0), (0, 0), (0, 0), (0, 0), (0, 0), (4, 45), (0, 0), (0, 0), (0, 0), (0, 0), (0, 0), (4, 49), (0, 0), (0, 0), (0, 0), (2, 77), (0, 0), (0, 0), (0, 0), (4, 53), (0, 0)] = true := by decide +kernel
theorem am_k99 : am_ckM am_tb am_hd am_m99 [(0, 0), (2, 79), (0, 0), (0, 0), (0, 0), (0, 0), (0, 0), (2, 76), (4, 57), (0, 0), (0, 0), (0, 0), (2, 78), (0, 0), (0, 0), (4, 33), (0, 0), (0, 0), (2, 76), (0, 0), (0, 0), (0, 0), (0, 0), (0, 0), (2, 79), (0, 0), (0, 0), (0, 0), (0, 0), (0, 0), (0, 0), (0, 0), (2, 78), (0, 0), (0, 0), (4, 33), (0, 0)] = true := by decide +kernel
theorem am_k100 : am_ckM am_tb am_hd am_m100 [(0, 0), (2, 76), (0, 0), (0, 0), (2, 75), (0, 0), (0, 0), (0, 0), (4, 28), (0, 0), (0, 0), (4, 28), (4, 15), (4, 33), (0, 0), (2, 79), (0, 0), (2, 77), (0, 0), (0, 0), (0, 0), (0, 0), (0, 0), (0, 0), (0, 0), (0, 0), (0, 0), (4, 34), (0, 0)] = true := by decide +kernel
theorem am_k101 : am_ckM am_tb am_hd am_m101 [(0, 0), (2, 75), (0, 0), (0, 0), (0, 0), (4, 28), (0, 0), (4, 15), (0, 0), (0, 0), (2, 76), (0, 0), (4, 39), (0, 0), (0, 0), (0, 0), (0, 0), (4, 35), (0, 0), (2, 76), (0, 0), (0, 0), (4, 33), (0, 0), (0, 0), (2, 77), (0, 0), (0, 0), (0, 0), (0, 0), (0, 0), (0, 0), (4, 34), (0, 0)] = true := by decide +kernel
theorem am_k102 : am_ckM am_tb am_hd am_m102 [(0, 0), (2, 75), (0, 0), (0, 0), (0, 0), (4, 28), (0, 0), (4, 15), (0, 0), (0, 0), (2, 76), (0, 0), (0, 0), (4, 33), (0, 0), (0, 0), (0, 0), (0, 0), (4, 35), (0, 0), (2, 76), (0, 0), (0, 0), (2, 75), (0, 0), (0, 0), (0, 0), (0, 0), (4, 28), (4, 15), (4, 44), (0, 0), (0, 0), (0, 0), (0, 0), (4, 35), (0, 0)] = true := by decide +kernel
theorem am_k103 : am_ckM am_tb am_hd am_m103 [(0, 0), (2, 75), (0, 0), (0, 0), (0, 0), (4, 15), (0, 0), (0, 0), (2, 75), (0, 0), (0, 0), (0, 0), (4, 15), (0, 0), (0, 0), (2, 75), (0, 0), (0, 0), (0, 0), (4, 15), (0, 0), (0, 0), (2, 76), (0, 0), (4, 39), (0, 0), (2, 76), (0, 0), (0, 0), (4, 33), (0, 0), (2, 76), (0, 0), (0, 0), (4, 33), (0, 0), (2, 76), (0, 0), (0, 0), (4, 44), (0, 0), (0, 0), (0, 0), (0, 0), (0, 0), (4, 34), (0, 0), (0, 0), (0, 0), (0, 0), (0, 0), (4, 34), (0, 0), (2, 76), (0, 0), (0, 0), (4, 33), (0, 0), (2, 76), (0, 0), (0, 0), (4, 33), (0, 0), (2, 76), (0, 0), (0, 0), (4, 44), (0, 0), (0, 0), (2, 77), (0, 0), (0, 0), (0, 0), (0, 0), (0, 0), (0, 0), (4, 34), (0, 0), (0, 0), (2, 77), (0, 0), (0, 0), (0, 0), (0, 0), (0, 0), (0, 0), (4, 34), (0, 0)] = true := by decide +kernel
theorem am_k104 : am_ckM am_tb am_hd am_m104 [(0, 0), (0, 0), (2, 77), (0, 0), (0, 0), (0, 0), (0, 0), (0, 0), (2, 77), (0, 0), (0, 0), (0, 0), (0, 0), (0, 0), (2, 78), (0, 0), (2, 77), (0, 0), (0, 0), (0, 0), (0, 0), (0, 0), (2, 77), (0, 0), (0, 0), (0, 0), (0, 0), (0, 0), (2, 75), (0, 0), (0, 0), (0, 0), (0, 0), (4, 28), (4, 32), (0, 0), (0, 0), (2, 77), (0, 0), (0, 0), (0, 0), (0, 0), (0, 0), (2, 75), (0, 0), (0, 0), (0, 0), (0, 0), (0, 0), (4, 28), (0, 0), (0, 0), (0, 0), (0, 0), (4, 28), (4, 15), (0, 0), (0, 0), (0, 0)] = true := by decide +kernel
theorem am_k105 : am_ckM am_tb am_hd am_m105 [(0, 0), (0, 0), (0, 0), (0, 0), (0, 0), (0, 0), (0, 0), (0, 0), (2, 77), (0, 0), (0, 0), (0, 0), (0, 0), (2, 77), (0, 0), (0, 0), (0, 0), (0, 0), (0, 0), (0, 0), (0, 0), (0, 0), (0, 0), (0, 0), (0, 0), (0, 0), (0, 0)] = true := by decide +kernel
theorem am_k106 : am_ckM am_tb am_hd am_m106 [(0, 0), (1, 25), (0, 0), (1, 28), (0, 0), (1, 30), (2, 91), (0, 0), (1, 116), (0, 0), (0, 0), (2, 91), (1, 118), (2, 92), (0, 0), (1, 145), (0, 0), (0, 0), (2, 91), (0, 0), (2, 92), (1, 147), (2, 93), (0, 0), (1, 201), (0, 0), (0, 0), (2, 91), (1, 203), (2, 94), (0, 0), (2, 5), (0, 0), (0, 0), (2, 91), (0, 0), (2, 93), (0, 0), (2, 94), (2, 7), (2, 95), (0, 0), (2, 45), (0, 0), (0, 0), (2, 91), (0, 0), (2, 92), (0, 0), (2, 93), (0, 0), (2, 94), (0, 0), (2, 95), (2, 47), (2, 96), (0, 0), (2, 67), (0, 0), (0, 0), (2, 91), (0, 0), (2, 94), (2, 69), (2, 97), (0, 0), (0, 0), (0, 0), (2, 98), (0, 0), (0, 0), (2, 99), (0, 0), (0, 0), (2, 100), (0, 0)] = true := by decide +kernel
theorem am_k107 : am_ckM am_tb am_hd am_m107 [(0, 0), (2, 99), (0, 0), (0, 0), (0, 0), (0, 0), (0, 0), (2, 99), (0, 0), (2, 98), (0, 0), (0, 0), (0, 0), (0, 0), (2, 98), (2, 126), (2, 98), (0, 0), (2, 98), (0, 0), (2, 99), (0, 0), (0, 0), (0, 0), (0, 0), (2, 99), (0, 0), (0, 0), (2, 99), (0, 0), (0, 0)] = true := by decide +kernel
theorem am_k108 : am_ckM am_tb am_hd am_m108 [(0, 0), (0, 0), (0, 0), (0, 0), (0, 0), (0, 0), (2, 100), (0, 0), (0, 0), (0, 0), (0, 0), (0, 0), (0, 0), (0, 0), (2, 99), (0, 0), (0, 0), (2, 100), (0, 0), (0, 0), (0, 0), (2, 91), (99, 8), (0, 0), (0, 0), (2, 95), (99, 32), (0, 0), (0, 0), (2, 92), (2, 134), (0, 0), (0, 0), (2, 138), (0, 0), (0, 0), (0, 0), (0, 0), (0, 0), (2, 148), (0, 0), (0, 0), (0, 0), (2, 100), (0, 0), (2, 95), (0, 0), (4, 60), (0, 0), (2, 91), (0, 0), (4, 68), (0, 0), (2, 92), (4, 73), (0, 0), (0, 0), (2, 98), (0, 0), (0, 0), (0, 0), (0, 0), (0, 0), (0, 0), (0, 0), (0, 0), (0, 0), (0, 0), (0, 0), (0, 0), (0, 0), (2, 99), (0, 0), (0, 0)] = true := by decide +kernel
theorem am_k109 : am_ckM am_tb am_hd am_m109 [(0, 0), (2, 100), (0, 0)] = true := by decide +kernel
theorem am_k110 : am_ckM am_tb am_hd am_m110 [(0, 0), (2, 95), (99, 32), (0, 0)] = true := by decide +kernel
theorem am_k111 : am_ckM am_tb am_hd am_m111 [(0, 0), (2, 95), (0, 0), (4, 93), (0, 0), (0, 0), (0, 0), (2, 95), (0, 0), (4, 162), (0, 0)] = true := by decide +kernel
theorem am_k112 : am_ckM am_tb am_hd am_m112 [(0, 0), (2, 95), (0, 0), (0, 0), (0, 0), (4, 170), (0, 0), (0, 0), (0, 0), (0, 0), (0, 0), (0, 0), (2, 94), (99, 19), (0, 0), (0, 0), (0, 0)] = true := by decide +kernel
theorem am_k113 : am_ckM am_tb am_hd am_m113 [(0, 0), (2, 95), (0, 0), (0, 0), (0, 0), (4, 170), (0, 0), (0, 0), (0, 0), (0, 0), (0, 0), (0, 0), (0, 0), (0, 0), (2, 91), (99, 5), (0, 0), (2, 94), (99, 21), (0, 0), (0, 0), (0, 0), (0, 0), (0, 0), (0, 0), (2, 91), (0, 0), (2, 94), (99, 21), (0, 0), (0, 0), (0, 0), (4, 185), (0, 0)] = true := by decide +kernel
theorem am_k114 : am_ckM am_tb am_hd am_m114 [(0, 0), (2, 95), (0, 0), (4, 197), (0, 0), (0, 0), (0, 0), (2, 91), (0, 0), (2, 95), (99, 35), (0, 0), (0, 0), (4, 68), (0, 0), (2, 93), (0, 0), (2, 95), (99, 36), (0, 0), (0, 0), (0, 0), (2, 95), (99, 37), (0, 0), (0, 0), (4, 217), (0, 0), (2, 95), (0, 0), (4, 60), (0, 0)] = true := by decide +kernel
theorem am_k115 : am_ckM am_tb am_hd am_m115 [(0, 0), (2, 95), (0, 0), (4, 93), (0, 0), (0, 0), (0, 0), (2, 95), (0, 0), (4, 162), (0, 0), (0, 0), (0, 0), (2, 95), (0, 0), (4, 197), (0, 0), (0, 0), (0, 0), (0, 0), (0, 0), (0, 0), (2, 94), (99, 27), (0, 0), (2, 95), (99, 34), (0, 0), (0, 0), (0, 0), (0, 0), (0, 0), (2, 94), (99, 27), (0, 0), (2, 95), (99, 34), (0, 0), (0, 0), (0, 0), (0, 0), (0, 0), (0, 0), (0, 0), (2, 91), (5, 5), (0, 0), (2, 94), (0, 0), (0, 0), (5, 6), (0, 0), (2, 91), (5, 7), (0, 0), (2, 91), (0, 0), (2, 95), (99, 35), (0, 0), (0, 0), (5, 8), (0, 0), (2, 93), (0, 0), (2, 95), (99, 36), (0, 0), (0, 0), (0, 0), (2, 95), (99, 37), (0, 0), (0, 0), (4, 217), (0, 0), (2, 95), (0, 0), (4, 60), (0, 0), (2, 94), (0, 0), (0, 0), (5, 13), (0, 0), (2, 95), (4, 59), (0, 0), (0, 0)] = true := by decide +kernel
theorem am_k116 : am_ckM am_tb am_hd am_m116 [(0, 0), (2, 98), (0, 0), (0, 0), (0, 0), (0, 0), (0, 0), (0, 0), (2, 142), (0, 0), (0, 0), (0, 0), (0, 0), (2, 142), (0, 0), (0, 0), (0, 0), (0, 0), (0, 0), (0, 0), (0, 0), (0, 0), (0, 0), (0, 0), (2, 99), (0, 0), (0, 0), (2, 92), (0, 0), (2, 98), (0, 0), (0, 0), (0, 0), (0, 0), (2, 144), (0, 0), (0, 0), (0, 0), (2, 92), (99, 10), (0, 0), (2, 98), (0, 0), (0, 0), (0, 0), (0, 0), (0, 0), (0, 0), (0, 0), (0, 0), (0, 0), (0, 0), (0, 0), (0, 0), (0, 0), (0, 0), (2, 99), (0, 0), (0, 0), (2, 98), (0, 0), (0, 0), (0, 0), (0, 0), (0, 0), (0, 0), (2, 98), (0, 0), (0, 0), (0, 0), (0, 0), (0, 0), (0, 0), (0, 0), (0, 0), (0, 0), (2, 98), (0, 0), (0, 0), (0, 0), (0, 0), (0, 0), (0, 0), (0, 0), (0, 0), (0, 0), (2, 99), (0, 0), (0, 0), (0, 0), (0, 0), (0, 0), (0, 0), (0, 0)] = true := by decide +kernel
theorem am_k117 : am_ckM am_tb am_hd am_m117 [(0, 0), (2, 98), (0, 0), (0, 0), (0, 0), (0, 0), (0, 0), (0, 0), (0, 0), (0, 0), (0, 0), (2, 99), (0, 0), (0, 0), (2, 98), (0, 0), (0, 0), (0, 0), (0, 0), (0, 0), (0, 0), (0, 0), (0, 0), (0, 0), (0, 0), (0, 0), (2, 99), (0, 0), (0, 0), (2, 98), (0, 0), (0, 0), (0, 0), (0, 0), (0, 0), (0, 0), (0, 0), (0, 0), (2, 98), (0, 0), (0, 0), (0, 0), (0, 0), (2, 93), (0, 0), (2, 152), (0, 0), (0, 0), (2, 93), (0, 0), (0, 0), (0, 0), (2, 166), (0, 0), (0, 0), (2, 93), (0, 0), (0, 0), (2, 174), (0, 0), (0, 0), (2, 93), (0, 0), (0, 0), (2, 192), (0, 0), (0, 0), (2, 93), (0, 0), (0, 0), (2, 212), (0, 0), (0, 0), (2, 93), (0, 0), (0, 0), (2, 224), (0, 0), (0, 0), (2, 93), (0, 0), (0, 0), (2, 232), (0, 0), (0, 0), (2, 96), (0, 0), (2, 236), (0, 0), (0, 0), (2, 96), (0, 0), (0, 0), (3, 32), (0, 0), (0, 0), (2, 96), (0, 0), (0, 0), (3, 107), (0, 0), (0, 0), (2, 96), (0, 0), (0, 0), (3, 113), (0, 0), (0, 0), (2, 96), (0, 0), (3, 130), (0, 0), (0, 0), (2, 96), (0, 0), (3, 134), (0, 0), (0, 0), (2, 96), (0, 0), (0, 0), (3, 139), (0, 0), (0, 0), (2, 96), (0, 0), (0, 0), (3, 143), (0, 0), (0, 0), (2, 96), (0, 0), (0, 0), (0, 0), (3, 147), (0, 0), (0, 0), (2, 96), (0, 0), (0, 0), (2, 98), (0, 0), (0, 0), (0, 0), (0, 0), (3, 155), (0, 0), (0, 0), (2, 96), (0, 0), (3, 194), (0, 0), (0, 0), (2, 96), (0, 0), (3, 220), (0, 0), (0, 0), (2, 97), (0, 0), (4, 10), (0, 0), (0, 0), (0, 0), (0, 0), (2, 97), (0, 0), (0, 0), (4, 20), (0, 0), (2, 95), (4, 59), (0, 0), (0, 0), (0, 0)] = true := by decide +kernel
theorem am_k118 : am_ckM am_tb am_hd am_m118 [(0, 0), (0, 0), (0, 0), (0, 0), (0, 0), (2, 129), (0, 0)] = true := by decide +kernel
theorem am_k119 : am_ckM am_tb am_hd am_m119 [(0, 0), (0, 0), (0, 0), (0, 0), (0, 0), (0, 0), (0, 0), (0, 0), (0, 0)] = true := by decide +kernel
theorem am_k120 : am_ckM am_tb am_hd am_m120 [(0, 0), (0, 0), (0, 0), (2, 159), (0, 0), (0, 0), (0, 0), (0, 0), (0, 0)] = true := by decide +kernel
theorem am_k121 : am_ckM am_tb am_hd am_m121 [(0, 0), (5, 19), (0, 0), (0, 0), (0, 0), (5, 43), (0, 0), (0, 0), (5, 44), (0, 0), (0, 0), (0, 0), (5, 46), (0, 0), (0, 0), (0, 0), (5, 47), (0, 0), (0, 0), (0, 0), (5, 48), (0, 0), (0, 0), (0, 0), (5, 49), (0, 0), (0, 0), (0, 0), (5, 50), (0, 0), (0, 0), (0, 0), (5, 51), (0, 0), (0, 0), (0, 0), (5, 52), (0, 0), (0, 0), (0, 0), (5, 53), (0, 0), (0, 0), (5, 54), (0, 0), (0, 0), (0, 0), (5, 55), (0, 0), (0, 0), (0, 0), (5, 57), (0, 0), (5, 20), (0, 0), (5, 59), (0, 0), (5, 20), (0, 0), (5, 60), (0, 0), (5, 20), (0, 0), (5, 61), (0, 0), (5, 20), (0, 0), (5, 62), (0, 0), (5, 20), (0, 0), (5, 63), (0, 0), (5, 20), (0, 0), (5, 64), (0, 0), (5, 20), (0, 0), (5, 65), (0, 0), (5, 20), (0, 0), (5, 66), (0, 0), (0, 0), (0, 0), (5, 67), (0, 0), (5, 20), (0, 0), (5, 68), (0, 0), (0, 0), (0, 0), (5, 71), (0, 0), (0, 0), (0, 0), (5, 72), (0, 0), (0, 0), (0, 0), (5, 76), (0, 0), (0, 0), (0, 0), (5, 77), (0, 0), (0, 0), (0, 0), (5, 78), (0, 0), (0, 0), (0, 0), (5, 79), (0, 0), (0, 0), (0, 0), (5, 80), (0, 0), (0, 0), (0, 0), (5, 81), (0, 0), (0, 0), (0, 0), (5, 82), (0, 0), (0, 0), (0, 0), (5, 83), (0, 0), (5, 21), (0, 0), (5, 84), (0, 0), (0, 0), (0, 0), (5, 88), (0, 0), (0, 0), (0, 0), (5, 89), (0, 0), (0, 0), (0, 0), (5, 91), (0, 0), (0, 0), (0, 0), (5, 93), (0, 0), (0, 0), (0, 0), (0, 0), (0, 0), (0, 0), (5, 52), (0, 0), (0, 0), (0, 0), (0, 0), (5, 67), (0, 0), (0, 0), (0, 0), (0, 0), (0, 0), (0, 0), (5, 55), (0, 0), (0, 0), (0, 0), (0, 0), (0, 0), (0, 0), (0, 0), (5, 22), (0, 0), (0, 0), (5, 33), (0, 0), (0, 0), (5, 57), (0, 0), (0, 0), (0, 0), (0, 0), (0, 0), (0, 0), (5, 37), (5, 37), (0, 0), (0, 0), (5, 57), (0, 0), (0, 0), (0, 0), (0, 0), (0, 0), (5, 37), (0, 0), (5, 37), (0, 0), (0, 0), (0, 0), (5, 56), (0, 0), (0, 0), (5, 45), (5, 85), (0, 0)] = true := by decide +kernel
theorem am_k122 : am_ckM am_tb am_hd am_m122 [(0, 0), (5, 41), (0, 0)] = true := by decide +kernel
theorem am_k123 : am_ckM am_tb am_hd am_m123 [(0, 0), (0, 0), (0, 0), (0, 0), (0, 0), (0, 0), (0, 0), (0, 0), (0, 0)] = true := by decide +kernel
theorem am_k124 : am_ckM am_tb am_hd am_m124 [(0, 0), (0, 0), (5, 86), (0, 0), (0, 0), (0, 0), (0, 0), (0, 0), (0, 0), (5, 86), (0, 0), (5, 86), (0, 0), (0, 0), (0, 0), (0, 0), (0, 0)] = true := by decide +kernel
theorem am_k125 : am_ckM am_tb am_hd am_m125 [(0, 0), (0, 0), (0, 0), (0, 0), (0, 0), (0, 0), (0, 0), (0, 0), (0, 0), (0, 0), (0, 0), (0, 0), (0, 0), (0, 0), (0, 0), (0, 0)] = true := by decide +kernel
theorem am_k126 : am_ckM am_tb am_hd am_m126 [(0, 0), (0, 0), (0, 0), (0, 0), (5, 26), (0, 0), (0, 0), (5, 52), (0, 0), (0, 0), (0, 0), (0, 0), (0, 0), (0, 0), (0, 0), (5, 46), (0, 0), (0, 0), (0, 0), (0, 0), (0, 0), (5, 47), (0, 0), (0, 0), (0, 0), (0, 0), (0, 0), (5, 48), (0, 0), (0, 0), (0, 0), (0, 0), (0, 0), (0, 0), (0, 0), (5, 51), (0, 0), (0, 0), (0, 0), (0, 0), (0, 0), (0, 0), (0, 0), (0, 0), (0, 0), (0, 0), (0, 0), (5, 49), (0, 0), (0, 0), (0, 0), (0, 0), (0, 0), (0, 0), (0, 0), (0, 0), (0, 0), (5, 49), (0, 0), (0, 0), (0, 0), (0, 0), (0, 0), (0, 0), (0, 0), (0, 0), (0, 0), (0, 0), (5, 50), (0, 0), (0, 0), (0, 0), (0, 0), (0, 0), (0, 0), (0, 0), (0, 0), (0, 0), (5, 50), (0, 0), (0, 0), (0, 0), (0, 0), (0, 0), (0, 0), (0, 0), (0, 0), (0, 0), (0, 0), (0, 0), (0, 0), (0, 0), (0, 0), (0, 0), (0, 0), (0, 0), (0, 0), (0, 0), (0, 0), (5, 45), (0, 0), (0, 0), (0, 0), (0, 0), (0, 0), (5, 29), (0, 0), (0, 0), (0, 0), (0, 0), (5, 46), (0, 0), (5, 45), (0, 0), (0, 0), (0, 0), (5, 47), (0, 0), (5, 45), (0, 0), (0, 0), (0, 0), (5, 48), (0, 0), (5, 45), (0, 0), (0, 0), (0, 0), (5, 49), (0, 0), (5, 45), (0, 0), (0, 0), (0, 0), (5, 50), (0, 0), (5, 45), (0, 0), (0, 0), (0, 0), (5, 51), (0, 0), (5, 45), (0, 0), (5, 52), (0, 0), (0, 0), (0, 0), (0, 0), (5, 52), (0, 0), (0, 0), (5, 45), (0, 0), (0, 0), (0, 0), (5, 45), (0, 0), (0, 0), (5, 45), (0, 0), (5, 45), (0, 0), (0, 0), (0, 0)] = true := by decide +kernel
theorem am_k127 : am_ckM am_tb am_hd am_m127 [(0, 0), (0, 0), (0, 0), (0, 0), (5, 22), (0, 0)] = true := by decide +kernel
theorem am_k128 : am_ckM am_tb am_hd am_m128 [(0, 0), (0, 0), (0, 0), (0, 0), (5, 22), (0, 0)] = true := by decide +kernel
theorem am_k129 : am_ckM am_tb am_hd am_m129 [(0, 0), (5, 46), (0, 0), (0, 0), (0, 0), (0, 0), (0, 0), (0, 0), (0, 0), (5, 87), (0, 0), (0, 0), (5, 88), (0, 0), (0, 0), (0, 0), (0, 0), (0, 0), (5, 89), (0, 0), (0, 0), (0, 0), (0, 0), (0, 0), (0, 0), (0, 0), (0, 0), (0, 0), (0, 0), (0, 0), (5, 88), (0, 0), (5, 87), (0, 0), (0, 0), (0, 0), (5, 89), (0, 0), (5, 87), (0, 0), (0, 0), (0, 0), (0, 0), (5, 87), (0, 0), (0, 0), (5, 87), (0, 0), (0, 0), (0, 0), (5, 46), (0, 0), (0, 0), (0, 0), (5, 46), (0, 0), (0, 0), (0, 0), (0, 0), (5, 47), (0, 0), (0, 0), (0, 0), (0, 0), (0, 0), (0, 0), (5, 47), (0, 0), (0, 0), (0, 0), (5, 47), (0, 0), (0, 0), (6, 25), (0, 0), (0, 0), (5, 48), (0, 0), (0, 0), (0, 0), (0, 0), (0, 0), (0, 0), (5, 48), (0, 0), (0, 0), (0, 0), (5, 48), (0, 0), (0, 0), (6, 25), (0, 0), (0, 0), (0, 0), (0, 0), (0, 0)] = true := by decide +kernel
theorem am_k130 : am_ckM am_tb am_hd am_m130 [(0, 0), (5, 46), (0, 0), (0, 0), (0, 0), (0, 0), (0, 0), (0, 0), (0, 0), (5, 87), (0, 0), (0, 0), (5, 88), (0, 0), (0, 0), (0, 0), (0, 0), (0, 0), (5, 89), (0, 0), (0, 0), (0, 0), (0, 0), (0, 0), (0, 0), (0, 0), (0, 0), (5, 47), (0, 0), (0, 0), (0, 0), (0, 0), (0, 0), (0, 0), (0, 0), (0, 0), (5, 47), (0, 0), (0, 0), (6, 141), (0, 0), (0, 0), (5, 48), (0, 0), (0, 0), (0, 0), (0, 0), (0, 0), (0, 0), (0, 0), (0, 0), (5, 48), (0, 0), (0, 0), (6, 141), (0, 0), (0, 0), (5, 86), (0, 0), (0, 0), (0, 0), (0, 0), (0, 0), (5, 46), (0, 0), (0, 0), (0, 0), (0, 0), (5, 22), (0, 0)] = true := by decide +kernel
theorem am_k131 : am_ckM am_tb am_hd am_m131 [(0, 0), (0, 0), (0, 0), (0, 0), (5, 26), (0, 0), (0, 0), (5, 67), (0, 0), (0, 0), (0, 0), (0, 0), (0, 0), (0, 0), (0, 0), (5, 59), (0, 0), (0, 0), (0, 0), (0, 0), (0, 0), (5, 60), (0, 0), (0, 0), (0, 0), (0, 0), (0, 0), (5, 61), (0, 0), (0, 0), (0, 0), (0, 0), (0, 0), (5, 62), (0, 0), (0, 0), (0, 0), (0, 0), (0, 0), (0, 0), (0, 0), (5, 66), (0, 0), (0, 0), (0, 0), (0, 0), (0, 0), (0, 0), (0, 0), (0, 0), (0, 0), (0, 0), (0, 0), (0, 0), (0, 0), (0, 0), (0, 0), (0, 0), (0, 0), (0, 0), (0, 0), (0, 0), (0, 0), (0, 0), (5, 63), (0, 0), (0, 0), (0, 0), (5, 63), (0, 0), (0, 0), (0, 0), (0, 0), (0, 0), (0, 0), (0, 0), (5, 64), (0, 0), (0, 0), (0, 0), (5, 64), (0, 0), (0, 0), (0, 0), (0, 0), (5, 64), (0, 0), (0, 0), (0, 0), (0, 0), (5, 64), (0, 0), (0, 0), (0, 0), (0, 0), (0, 0), (5, 65), (0, 0), (0, 0), (0, 0), (5, 65), (0, 0), (0, 0), (0, 0), (0, 0), (5, 65), (0, 0), (0, 0), (0, 0), (0, 0), (5, 65), (0, 0), (0, 0), (0, 0), (0, 0), (0, 0), (0, 0), (0, 0), (0, 0), (0, 0), (5, 63), (0, 0), (0, 0), (0, 0), (0, 0), (0, 0), (0, 0), (5, 64), (0, 0), (0, 0), (0, 0), (0, 0), (0, 0), (5, 65), (0, 0), (0, 0), (0, 0), (0, 0), (5, 65), (0, 0), (0, 0), (0, 0), (0, 0), (0, 0), (0, 0), (0, 0), (0, 0), (0, 0), (0, 0), (0, 0), (0, 0), (0, 0), (0, 0), (0, 0), (5, 58), (5, 20), (0, 0), (0, 0), (0, 0), (0, 0), (5, 29), (0, 0), (0, 0), (0, 0), (0, 0), (5, 59), (0, 0), (5, 58), (0, 0), (0, 0), (0, 0), (5, 60), (0, 0), (5, 58), (0, 0), (0, 0), (0, 0), (5, 61), (0, 0), (5, 58), (0, 0), (0, 0), (0, 0), (5, 62), (0, 0), (5, 58), (0, 0), (0, 0), (0, 0), (5, 63), (0, 0), (5, 58), (0, 0), (0, 0), (0, 0), (5, 64), (0, 0), (5, 58), (0, 0), (0, 0), (0, 0), (5, 65), (0, 0), (5, 58), (0, 0), (0, 0), (0, 0), (5, 66), (0, 0), (5, 58), (0, 0), (5, 67), (0, 0), (0, 0), (0, 0), (0, 0), (5, 67), (0, 0), (0, 0), (5, 58), (0, 0), (0, 0), (0, 0), (5, 58), (0, 0), (0, 0), (5, 58), (0, 0), (5, 58), (0, 0), (0, 0), (0, 0)] = true := by decide +kernel
theorem am_k132 : am_ckM am_tb am_hd am_m132 [(0, 0), (5, 86), (0, 0), (0, 0), (0, 0), (0, 0), (0, 0), (0, 0), (0, 0), (0, 0), (6, 9), (0, 0)] = true := by decide +kernel
theorem am_k133 : am_ckM am_tb am_hd am_m133 [(0, 0), (5, 86), (0, 0), (0, 0), (0, 0), (0, 0), (0, 0), (0, 0), (0, 0), (0, 0), (6, 9), (0, 0)] = true := by decide +kernel
theorem am_k134 : am_ckM am_tb am_hd am_m134 [(0, 0), (5, 62), (0, 0), (0, 0), (0, 0), (0, 0), (5, 46), (0, 0), (0, 0), (0, 0), (0, 0), (0, 0), (5, 47), (0, 0), (0, 0), (0, 0), (5, 62), (0, 0), (0, 0), (0, 0), (0, 0), (0, 0), (0, 0), (0, 0)] = true := by decide +kernel
theorem am_k135 : am_ckM am_tb am_hd am_m135 [(0, 0), (5, 86), (0, 0), (0, 0), (0, 0), (0, 0), (0, 0), (0, 0), (0, 0), (0, 0), (5, 48), (0, 0), (5, 62), (0, 0), (0, 0), (0, 0), (6, 9), (0, 0)] = true := by decide +kernel
theorem am_k136 : am_ckM am_tb am_hd am_m136 [(0, 0), (5, 86), (0, 0), (0, 0), (0, 0), (0, 0), (0, 0), (0, 0), (5, 62), (0, 0), (0, 0), (5, 37), (0, 0), (0, 0), (5, 86), (0, 0), (0, 0), (0, 0), (0, 0), (0, 0), (0, 0), (0, 0), (0, 0), (6, 9), (0, 0)] = true := by decide +kernel
theorem am_k137 : am_ckM am_tb am_hd am_m137 [(0, 0), (5, 86), (0, 0), (0, 0), (0, 0), (0, 0), (0, 0), (0, 0), (0, 0), (0, 0), (0, 0), (0, 0), (0, 0), (5, 62), (0, 0), (0, 0), (6, 9), (0, 0), (0, 0), (5, 59), (0, 0), (0, 0), (0, 0), (0, 0), (0, 0), (0, 0), (0, 0), (5, 60), (0, 0), (0, 0), (0, 0), (6, 117), (0, 0), (0, 0), (0, 0), (0, 0), (0, 0), (0, 0), (5, 61), (0, 0), (0, 0), (0, 0), (6, 117), (6, 5), (0, 0), (0, 0), (5, 59), (0, 0), (0, 0), (0, 0), (0, 0), (0, 0), (0, 0), (5, 60), (0, 0), (0, 0), (0, 0), (0, 0), (0, 0), (5, 61), (0, 0), (0, 0), (0, 0), (0, 0), (0, 0), (6, 117), (6, 21), (0, 0), (0, 0), (0, 0)] = true := by decide +kernel
theorem am_k138 : am_ckM am_tb am_hd am_m138 [(0, 0), (0, 0), (5, 62), (0, 0), (0, 0), (0, 0), (0, 0), (0, 0), (0, 0), (6, 117), (6, 21), (0, 0)] = true := by decide +kernel
theorem am_k139 : am_ckM am_tb am_hd am_m139 [(0, 0), (5, 86), (0, 0), (0, 0), (0, 0), (0, 0), (5, 59), (0, 0), (0, 0), (0, 0), (0, 0), (0, 0), (5, 60), (0, 0), (0, 0), (0, 0), (0, 0), (0, 0), (0, 0), (0, 0), (0, 0), (0, 0), (5, 59), (0, 0), (0, 0), (0, 0), (0, 0), (0, 0), (0, 0), (5, 60), (0, 0), (0, 0), (0, 0), (0, 0), (6, 61), (0, 0), (0, 0), (0, 0), (0, 0), (0, 0), (5, 61), (0, 0), (0, 0), (0, 0), (0, 0), (6, 61), (6, 5), (0, 0), (0, 0), (5, 59), (0, 0), (0, 0), (0, 0), (0, 0), (0, 0), (0, 0), (5, 60), (0, 0), (0, 0), (0, 0), (0, 0), (5, 61), (0, 0), (0, 0), (0, 0), (0, 0), (0, 0), (0, 0), (6, 61), (6, 21), (0, 0), (0, 0), (0, 0)] = true := by decide +kernel
theorem am_k140 : am_ckM am_tb am_hd am_m140 [(0, 0), (5, 86), (0, 0), (0, 0), (0, 0), (0, 0), (0, 0), (0, 0), (0, 0), (0, 0), (0, 0), (5, 59), (0, 0), (0, 0), (0, 0), (0, 0), (0, 0), (0, 0), (5, 60), (0, 0), (0, 0), (0, 0), (0, 0), (6, 125), (0, 0), (0, 0), (0, 0), (0, 0), (0, 0), (5, 61), (0, 0), (0, 0), (0, 0), (0, 0), (6, 125), (6, 5), (0, 0), (0, 0), (5, 59), (0, 0), (0, 0), (0, 0), (0, 0), (0, 0), (0, 0), (5, 60), (0, 0), (0, 0), (0, 0), (0, 0), (5, 61), (0, 0), (0, 0), (0, 0), (0, 0), (6, 125), (6, 21), (0, 0), (0, 0), (0, 0)] = true := by decide +kernel
theorem am_k141 : am_ckM am_tb am_hd am_m141 [(0, 0), (5, 86), (0, 0), (0, 0), (0, 0), (0, 0), (5, 59), (0, 0), (0, 0), (0, 0), (0, 0), (0, 0), (0, 0), (5, 60), (0, 0), (0, 0), (6, 137), (0, 0), (0, 0), (0, 0), (0, 0), (0, 0), (5, 61), (0, 0), (0, 0), (6, 137), (6, 5), (0, 0), (0, 0), (5, 59), (0, 0), (0, 0), (0, 0), (0, 0), (0, 0), (0, 0), (5, 60), (0, 0), (0, 0), (6, 141), (0, 0), (0, 0), (0, 0), (0, 0), (0, 0), (5, 61), (0, 0), (0, 0), (6, 137), (6, 21), (0, 0), (0, 0), (0, 0), (5, 62), (0, 0), (0, 0), (6, 141), (0, 0), (0, 0), (5, 86), (0, 0), (0, 0), (0, 0), (0, 0), (0, 0), (5, 59), (0, 0), (0, 0), (0, 0), (5, 60), (0, 0), (0, 0), (0, 0), (0, 0), (6, 9), (0, 0)] = true := by decide +kernel
theorem am_k142 : am_ckM am_tb am_hd am_m142 [(0, 0), (0, 0), (0, 0), (0, 0), (5, 59), (0, 0), (0, 0), (0, 0), (0, 0), (0, 0), (0, 0), (0, 0), (5, 60), (0, 0), (0, 0), (6, 109), (0, 0), (0, 0), (0, 0), (0, 0), (5, 61), (0, 0), (0, 0), (6, 109), (0, 0), (0, 0), (5, 59), (0, 0), (0, 0), (0, 0), (0, 0), (0, 0), (0, 0), (0, 0), (5, 61), (0, 0), (0, 0), (6, 109), (0, 0), (0, 0), (0, 0), (0, 0), (0, 0)] = true := by decide +kernel
theorem am_k143 : am_ckM am_tb am_hd am_m143 [(0, 0), (5, 59), (0, 0), (0, 0), (0, 0), (0, 0), (0, 0), (5, 60), (0, 0), (0, 0), (0, 0), (0, 0), (0, 0), (5, 62), (0, 0), (0, 0), (0, 0), (0, 0), (0, 0), (0, 0), (0, 0), (0, 0), (0, 0), (5, 59), (0, 0), (0, 0), (0, 0), (0, 0), (0, 0), (0, 0), (5, 60), (0, 0), (0, 0), (0, 0), (0, 0), (6, 17), (0, 0), (0, 0), (0, 0), (5, 61), (0, 0), (0, 0), (0, 0), (0, 0), (6, 17), (0, 0), (0, 0), (0, 0), (0, 0), (0, 0), (0, 0), (5, 59), (0, 0), (0, 0), (0, 0), (0, 0), (0, 0), (0, 0), (5, 61), (0, 0), (0, 0), (0, 0), (0, 0), (0, 0), (0, 0), (6, 17), (0, 0), (0, 0), (0, 0), (0, 0), (0, 0)] = true := by decide +kernel
theorem am_k144 : am_ckM am_tb am_hd am_m144 [(0, 0), (5, 86), (0, 0), (0, 0), (0, 0), (0, 0), (5, 62), (0, 0), (0, 0), (0, 0), (0, 0), (0, 0), (0, 0), (5, 33), (5, 37), (0, 0), (0, 0), (5, 86), (0, 0), (0, 0), (0, 0), (0, 0), (0, 0), (0, 0), (5, 37), (0, 0), (0, 0), (0, 0), (0, 0), (0, 0), (0, 0), (6, 49), (0, 0), (6, 5), (0, 0), (6, 5), (0, 0)] = true := by decide +kernel
theorem am_k145 : am_ckM am_tb am_hd am_m145 [(0, 0), (5, 59), (0, 0), (0, 0), (0, 0), (0, 0), (0, 0), (5, 59), (0, 0), (5, 60), (0, 0), (0, 0), (0, 0), (0, 0), (0, 0), (0, 0), (5, 59), (0, 0), (5, 60), (0, 0), (5, 60), (0, 0), (0, 0), (0, 0), (0, 0), (0, 0), (0, 0), (0, 0), (5, 60), (0, 0), (5, 60), (0, 0), (5, 60), (0, 0), (0, 0), (0, 0), (0, 0), (0, 0), (0, 0), (0, 0), (0, 0), (0, 0)] = true := by decide +kernel
theorem am_k146 : am_ckM am_tb am_hd am_m146 [(0, 0), (5, 61), (0, 0), (5, 60), (0, 0), (0, 0), (0, 0), (0, 0)] = true := by decide +kernel
theorem am_k147 : am_ckM am_tb am_hd am_m147 [(0, 0), (0, 0), (5, 90), (0, 0), (5, 42), (0, 0), (0, 0), (0, 0), (0, 0), (5, 29), (0, 0), (0, 0), (0, 0), (0, 0), (0, 0), (5, 90), (0, 0), (0, 0), (5, 90), (0, 0), (5, 43), (0, 0), (5, 90), (0, 0), (0, 0), (0, 0), (0, 0)] = true := by decide +kernel
theorem am_k148 : am_ckM am_tb am_hd am_m148 [(0, 0), (5, 213), (0, 0), (0, 0), (0, 0), (0, 0), (5, 69), (5, 222), (0, 0), (0, 0), (0, 0), (0, 0), (5, 29), (0, 0), (0, 0), (5, 71), (0, 0), (0, 0), (0, 0), (0, 0), (0, 0)] = true := by decide +kernel
theorem am_k149 : am_ckM am_tb am_hd am_m149 [(0, 0), (5, 213), (0, 0), (0, 0), (0, 0), (0, 0), (5, 70), (5, 222), (0, 0), (0, 0), (0, 0), (0, 0), (5, 29), (0, 0), (0, 0), (5, 72), (0, 0), (0, 0), (0, 0), (0, 0), (0, 0)] = true := by decide +kernel
theorem am_k150 : am_ckM am_tb am_hd am_m150 [(0, 0), (5, 237), (0, 0), (0, 0), (0, 0), (5, 86), (0, 0), (0, 0), (5, 65), (0, 0), (0, 0), (0, 0), (0, 0), (0, 0), (0, 0), (5, 29), (0, 0), (0, 0), (0, 0)] = true := by decide +kernel
theorem am_k151 : am_ckM am_tb am_hd am_m151 [(0, 0), (5, 213), (0, 0), (0, 0), (0, 0), (0, 0), (5, 73), (5, 222), (0, 0), (0, 0), (0, 0), (0, 0), (5, 29), (0, 0), (0, 0), (0, 0), (0, 0), (0, 0)] = true := by decide +kernel
theorem am_k152 : am_ckM am_tb am_hd am_m152 [(0, 0), (0, 0), (5, 69), (0, 0), (0, 0), (0, 0), (0, 0), (0, 0), (5, 29), (0, 0), (0, 0), (0, 0), (5, 71), (0, 0), (5, 69), (0, 0), (0, 0), (0, 0), (0, 0), (5, 69), (0, 0), (0, 0), (5, 69), (0, 0)] = true := by decide +kernel
theorem am_k153 : am_ckM am_tb am_hd am_m153 [(0, 0), (0, 0), (5, 70), (0, 0), (0, 0), (0, 0), (0, 0), (0, 0), (5, 29), (0, 0), (0, 0), (0, 0), (5, 72), (0, 0), (5, 70), (0, 0), (0, 0), (0, 0), (0, 0), (5, 70), (0, 0), (0, 0), (5, 70), (0, 0)] = true := by decide +kernel
theorem am_k154 : am_ckM am_tb am_hd am_m154 [(0, 0), (5, 213), (0, 0), (0, 0), (0, 0), (0, 0), (0, 0), (5, 221), (5, 222), (0, 0), (0, 0), (0, 0), (0, 0), (5, 29), (0, 0), (0, 0), (0, 0), (0, 0), (0, 0), (0, 0), (0, 0), (0, 0), (5, 22), (5, 225), (0, 0), (0, 0), (0, 0), (0, 0), (5, 54), (5, 222), (0, 0), (0, 0), (0, 0), (0, 0), (5, 29), (0, 0), (0, 0), (0, 0), (5, 55), (0, 0), (0, 0), (0, 0), (0, 0), (5, 229), (0, 0), (0, 0), (0, 0), (0, 0), (5, 55), (0, 0), (0, 0), (0, 0), (0, 0), (0, 0), (5, 229), (0, 0), (0, 0), (0, 0), (0, 0), (5, 86), (0, 0), (0, 0), (0, 0), (0, 0), (0, 0), (0, 0), (5, 22), (5, 225), (0, 0)] = true := by decide +kernel
theorem am_k155 : am_ckM am_tb am_hd am_m155 [(0, 0), (0, 0), (0, 0), (0, 0), (5, 237), (0, 0), (0, 0), (5, 237), (0, 0), (0, 0), (5, 86), (0, 0), (0, 0), (0, 0), (0, 0), (0, 0), (6, 1), (5, 29), (0, 0), (0, 0), (0, 0), (0, 0), (0, 0), (6, 5), (6, 13), (0, 0), (0, 0), (0, 0), (0, 0), (0, 0), (5, 229), (0, 0), (0, 0), (5, 237), (0, 0), (0, 0), (5, 86), (0, 0), (0, 0), (0, 0), (0, 0), (0, 0), (0, 0), (6, 17), (5, 29), (0, 0), (0, 0), (0, 0), (0, 0), (0, 0), (6, 21), (6, 13), (0, 0), (0, 0), (5, 213), (0, 0), (0, 0), (5, 229), (0, 0), (0, 0), (5, 86), (0, 0), (0, 0), (0, 0), (0, 0), (0, 0), (0, 0), (0, 0), (5, 87), (0, 0), (0, 0), (0, 0), (5, 56), (5, 222), (0, 0), (0, 0), (0, 0), (5, 57), (0, 0), (0, 0), (0, 0), (6, 25), (0, 0), (0, 0), (0, 0), (0, 0), (5, 29), (0, 0), (0, 0), (0, 0), (0, 0), (0, 0), (0, 0), (0, 0), (5, 221), (0, 0), (0, 0), (5, 222), (0, 0), (0, 0), (0, 0), (0, 0), (5, 29), (0, 0), (0, 0), (5, 86), (0, 0), (0, 0), (0, 0), (0, 0), (0, 0), (0, 0), (0, 0), (6, 9), (6, 13), (0, 0)] = true := by decide +kernel
theorem am_k156 : am_ckM am_tb am_hd am_m156 [(0, 0), (5, 86), (0, 0), (0, 0), (0, 0), (0, 0), (0, 0), (0, 0), (5, 78), (0, 0), (5, 73), (0, 0), (0, 0), (0, 0), (5, 84), (0, 0), (5, 74), (0, 0), (0, 0), (0, 0), (0, 0), (0, 0), (0, 0), (0, 0), (0, 0), (0, 0), (0, 0), (5, 78), (0, 0), (5, 73), (0, 0), (0, 0), (0, 0), (0, 0), (0, 0), (0, 0), (5, 29), (0, 0), (0, 0), (0, 0), (5, 84), (0, 0), (5, 74), (0, 0), (5, 78), (0, 0), (5, 73), (0, 0), (0, 0), (0, 0), (0, 0), (0, 0), (5, 78), (0, 0), (5, 73), (0, 0), (0, 0), (0, 0), (0, 0), (0, 0), (0, 0)] = true := by decide +kernel
theorem am_k157 : am_ckM am_tb am_hd am_m157 [(0, 0), (0, 0), (0, 0), (0, 0), (5, 78), (0, 0), (0, 0), (0, 0), (0, 0), (5, 84), (0, 0), (5, 77), (0, 0), (0, 0), (0, 0), (0, 0), (0, 0), (0, 0), (0, 0), (0, 0), (0, 0), (5, 84), (0, 0), (5, 77), (0, 0), (0, 0), (0, 0), (0, 0), (0, 0), (6, 65), (0, 0), (0, 0), (0, 0)] = true := by decide +kernel
theorem am_k158 : am_ckM am_tb am_hd am_m158 [(0, 0), (5, 77), (0, 0), (5, 73), (0, 0), (5, 74), (0, 0), (0, 0), (5, 78), (0, 0), (5, 73), (0, 0), (0, 0), (0, 0), (0, 0), (5, 73), (0, 0), (0, 0), (0, 0), (0, 0), (0, 0), (5, 29), (0, 0), (0, 0)] = true := by decide +kernel
theorem am_k159 : am_ckM am_tb am_hd am_m159 [(0, 0), (5, 86), (0, 0), (0, 0), (0, 0), (5, 63), (0, 0), (0, 0), (0, 0), (0, 0), (0, 0), (0, 0), (0, 0), (5, 78), (0, 0), (5, 73), (0, 0), (0, 0), (0, 0), (0, 0), (5, 63), (0, 0), (5, 84), (0, 0), (5, 74), (0, 0), (0, 0), (0, 0), (0, 0), (0, 0), (0, 0), (0, 0), (0, 0), (0, 0), (0, 0), (5, 75), (0, 0), (0, 0), (0, 0), (0, 0), (0, 0), (0, 0), (0, 0), (5, 29), (0, 0), (0, 0), (0, 0), (5, 76), (0, 0), (5, 73), (0, 0), (0, 0), (0, 0), (5, 79), (0, 0), (5, 73), (0, 0), (0, 0), (0, 0), (0, 0), (5, 75), (0, 0), (0, 0), (5, 75), (0, 0), (0, 0), (5, 74), (0, 0), (5, 78), (0, 0), (5, 73), (0, 0), (0, 0), (5, 74), (0, 0), (0, 0), (5, 73), (0, 0), (0, 0), (5, 73), (0, 0), (0, 0), (5, 73), (0, 0), (0, 0), (6, 57), (0, 0)] = true := by decide +kernel
theorem am_k160 : am_ckM am_tb am_hd am_m160 [(0, 0), (5, 80), (0, 0), (0, 0), (5, 58), (0, 0), (0, 0), (5, 81), (0, 0), (0, 0), (5, 45), (0, 0), (0, 0), (5, 82), (0, 0), (0, 0), (5, 69), (0, 0), (0, 0), (5, 83), (0, 0), (0, 0), (5, 70), (0, 0), (0, 0)] = true := by decide +kernel
theorem am_k161 : am_ckM am_tb am_hd am_m161 [(0, 0), (6, 41), (0, 0), (0, 0), (0, 0), (6, 89), (0, 0), (0, 0), (0, 0), (6, 89), (0, 0)] = true := by decide +kernel
theorem am_k162 : am_ckM am_tb am_hd am_m162 [(0, 0), (0, 0), (0, 0), (0, 0), (0, 0), (6, 33), (6, 37), (0, 0), (0, 0), (6, 81), (0, 0), (0, 0), (0, 0), (0, 0), (0, 0), (6, 81), (6, 85), (0, 0), (0, 0), (6, 33), (0, 0), (0, 0), (0, 0), (0, 0), (6, 81), (6, 105), (0, 0), (0, 0), (6, 121), (0, 0), (0, 0), (6, 129), (0, 0), (0, 0), (0, 0), (6, 81), (6, 145), (0, 0), (0, 0), (0, 0), (5, 213), (6, 153), (0, 0)] = true := by decide +kernel
theorem am_k163 : am_ckM am_tb am_hd am_m163 [(0, 0), (5, 86), (0, 0), (0, 0), (0, 0), (6, 41), (0, 0), (0, 0), (0, 0), (0, 0), (0, 0), (0, 0), (0, 0), (6, 45), (0, 0), (6, 53), (0, 0), (0, 0), (0, 0), (0, 0), (0, 0), (0, 0), (5, 59), (0, 0), (0, 0), (0, 0), (0, 0), (0, 0), (5, 59), (0, 0), (5, 60), (0, 0), (0, 0), (0, 0), (0, 0), (0, 0), (0, 0), (5, 59), (0, 0), (5, 61), (0, 0), (0, 0), (0, 0), (0, 0), (0, 0), (0, 0), (0, 0), (0, 0), (5, 29), (0, 0), (0, 0), (0, 0), (0, 0), (0, 0), (0, 0), (5, 61), (0, 0), (5, 60), (0, 0), (0, 0), (0, 0), (0, 0), (5, 61), (0, 0), (0, 0), (0, 0), (6, 61), (6, 45), (0, 0), (6, 53), (0, 0), (0, 0), (0, 0), (0, 0), (0, 0), (0, 0), (5, 62), (0, 0), (0, 0), (0, 0), (5, 33), (0, 0), (0, 0), (0, 0), (0, 0), (5, 29), (0, 0), (0, 0), (0, 0), (0, 0), (6, 65), (0, 0), (0, 0), (0, 0), (6, 53), (0, 0), (0, 0), (0, 0), (6, 69), (0, 0)] = true := by decide +kernel
theorem am_k164 : am_ckM am_tb am_hd am_m164 [(0, 0), (5, 86), (0, 0), (0, 0), (0, 0), (5, 76), (0, 0), (0, 0), (0, 0), (0, 0), (5, 76), (0, 0), (0, 0), (0, 0), (0, 0), (0, 0), (0, 0), (0, 0), (6, 41), (0, 0), (0, 0), (0, 0), (6, 89), (0, 0), (0, 0), (0, 0), (6, 89), (0, 0), (0, 0), (0, 0), (0, 0), (6, 45), (0, 0), (6, 53), (0, 0), (0, 0), (0, 0), (0, 0), (6, 93), (0, 0), (0, 0), (0, 0), (0, 0), (0, 0), (0, 0), (6, 93), (0, 0), (0, 0), (0, 0), (0, 0), (5, 29), (0, 0), (0, 0), (0, 0), (0, 0), (0, 0), (6, 97), (0, 0), (0, 0), (0, 0), (0, 0), (0, 0), (0, 0), (6, 101), (0, 0), (0, 0), (0, 0), (0, 0), (0, 0), (5, 29), (0, 0), (0, 0), (0, 0), (5, 61), (0, 0), (0, 0), (0, 0), (6, 53), (0, 0), (0, 0), (0, 0), (0, 0), (0, 0), (0, 0), (5, 61), (0, 0), (0, 0), (0, 0), (0, 0), (6, 101), (0, 0), (0, 0), (0, 0), (0, 0), (5, 29), (0, 0), (0, 0), (0, 0), (0, 0), (0, 0), (6, 101), (0, 0), (5, 61), (0, 0), (0, 0), (6, 45), (0, 0), (6, 53), (0, 0), (0, 0), (0, 0), (0, 0), (0, 0), (6, 101), (0, 0), (0, 0), (6, 101), (6, 1), (5, 29), (0, 0), (0, 0), (0, 0), (0, 0), (6, 101), (0, 0), (0, 0), (6, 101), (6, 5), (0, 0), (0, 0), (0, 0), (0, 0), (0, 0), (0, 0), (5, 61), (0, 0), (0, 0), (0, 0), (5, 61), (0, 0), (0, 0), (6, 5), (6, 45), (0, 0), (6, 53), (0, 0)] = true := by decide +kernel
theorem am_k165 : am_ckM am_tb am_hd am_m165 [(0, 0), (5, 86), (0, 0), (0, 0), (0, 0), (5, 76), (0, 0), (0, 0), (0, 0), (0, 0), (0, 0), (5, 59), (0, 0), (0, 0), (0, 0), (0, 0), (0, 0), (0, 0), (6, 93), (0, 0), (0, 0), (0, 0), (0, 0), (5, 29), (0, 0), (0, 0), (0, 0), (0, 0), (0, 0), (5, 78), (0, 0), (0, 0), (0, 0), (0, 0), (5, 86), (0, 0), (0, 0), (0, 0), (0, 0), (0, 0), (5, 84), (0, 0), (5, 77), (0, 0), (0, 0), (0, 0), (0, 0), (0, 0), (6, 109), (0, 0), (0, 0), (0, 0), (0, 0), (5, 29), (0, 0), (0, 0), (0, 0), (0, 0), (5, 86), (0, 0), (0, 0), (0, 0), (6, 41), (0, 0), (0, 0), (0, 0), (6, 89), (0, 0), (0, 0), (0, 0), (0, 0), (6, 101), (6, 113), (0, 0), (0, 0), (0, 0), (0, 0), (0, 0), (0, 0), (0, 0), (5, 61), (0, 0), (0, 0), (6, 113), (6, 45), (0, 0), (6, 53), (0, 0)] = true := by decide +kernel
theorem am_k166 : am_ckM am_tb am_hd am_m166 [(0, 0), (6, 81), (0, 0), (0, 0), (6, 33), (0, 0), (0, 0), (6, 33), (0, 0), (0, 0), (5, 86), (0, 0), (0, 0), (0, 0), (5, 59), (0, 0), (0, 0), (0, 0), (0, 0), (0, 0), (5, 62), (0, 0), (0, 0), (0, 0), (5, 62), (0, 0), (0, 0), (0, 0), (0, 0), (0, 0), (0, 0), (5, 29), (0, 0), (0, 0), (0, 0), (6, 41), (0, 0), (0, 0), (0, 0), (0, 0), (5, 78), (0, 0), (0, 0), (0, 0), (0, 0), (0, 0), (0, 0), (5, 84), (0, 0), (5, 77), (0, 0), (0, 0), (0, 0), (0, 0), (0, 0), (0, 0), (0, 0), (6, 125), (6, 65), (0, 0), (0, 0), (0, 0), (0, 0), (0, 0), (5, 76), (0, 0), (0, 0), (0, 0), (0, 0), (6, 125), (0, 0), (6, 53), (0, 0)] = true := by decide +kernel
theorem am_k167 : am_ckM am_tb am_hd am_m167 [(0, 0), (6, 81), (0, 0), (0, 0), (5, 213), (0, 0), (0, 0), (5, 86), (0, 0), (0, 0), (0, 0), (0, 0), (5, 222), (0, 0), (0, 0), (0, 0), (0, 0), (5, 29), (0, 0), (0, 0), (0, 0), (0, 0), (5, 87), (0, 0), (0, 0), (0, 0), (0, 0), (0, 0), (0, 0), (5, 86), (0, 0), (0, 0), (5, 213), (0, 0), (0, 0), (5, 229), (0, 0), (0, 0), (5, 86), (0, 0), (0, 0), (0, 0), (5, 221), (5, 222), (0, 0), (0, 0), (0, 0), (0, 0), (5, 29), (0, 0), (0, 0), (0, 0), (0, 0), (6, 133), (0, 0), (0, 0), (0, 0), (0, 0), (0, 0), (5, 87), (0, 0), (0, 0), (0, 0), (5, 91), (0, 0), (0, 0), (0, 0), (0, 0), (0, 0), (0, 0), (0, 0), (5, 29), (0, 0), (0, 0), (0, 0), (0, 0), (5, 91), (0, 0), (5, 87), (0, 0), (0, 0), (0, 0), (5, 88), (0, 0), (5, 87), (0, 0), (0, 0), (0, 0), (5, 89), (0, 0), (5, 87), (0, 0), (0, 0), (0, 0), (0, 0), (5, 87), (0, 0), (0, 0), (5, 87), (0, 0), (0, 0), (0, 0), (5, 86), (0, 0), (0, 0), (0, 0), (6, 41), (0, 0), (0, 0), (0, 0), (0, 0), (5, 78), (0, 0), (0, 0), (0, 0), (0, 0), (0, 0), (0, 0), (5, 84), (0, 0), (5, 77), (0, 0), (0, 0), (0, 0), (0, 0), (0, 0), (6, 137), (6, 65), (0, 0), (0, 0), (0, 0), (0, 0), (0, 0), (5, 76), (0, 0), (0, 0), (6, 137), (0, 0), (6, 53), (0, 0)] = true := by decide +kernel
theorem am_k168 : am_ckM am_tb am_hd am_m168 [(0, 0), (0, 0), (0, 0), (0, 0), (0, 0), (0, 0), (5, 26), (0, 0), (0, 0), (5, 52), (0, 0), (0, 0), (0, 0), (0, 0), (0, 0), (0, 0), (0, 0), (5, 46), (0, 0), (0, 0), (0, 0), (0, 0), (0, 0), (0, 0), (0, 0), (0, 0), (0, 0), (5, 51), (0, 0), (0, 0), (0, 0), (0, 0), (0, 0), (0, 0)] = true := by decide +kernel
theorem am_k169 : am_ckM am_tb am_hd am_m169 [(0, 0), (5, 46), (0, 0), (0, 0), (0, 0), (0, 0), (5, 47), (0, 0), (0, 0), (0, 0), (0, 0), (0, 0), (0, 0), (5, 47), (0, 0), (0, 0), (6, 77), (0, 0), (5, 48), (0, 0), (0, 0), (0, 0), (0, 0), (0, 0), (0, 0), (5, 48), (0, 0), (0, 0), (6, 77), (0, 0), (0, 0), (0, 0), (0, 0), (0, 0), (5, 92), (0, 0), (0, 0), (5, 93), (0, 0), (0, 0), (0, 0), (0, 0), (0, 0), (0, 0), (0, 0), (0, 0), (5, 92), (0, 0), (0, 0), (0, 0), (0, 0), (5, 92), (0, 0), (0, 0), (0, 0), (0, 0), (5, 46), (0, 0), (5, 93), (0, 0), (0, 0), (0, 0), (0, 0), (0, 0), (0, 0), (5, 46), (0, 0), (0, 0), (0, 0), (0, 0), (5, 93), (0, 0), (0, 0), (5, 93), (0, 0), (0, 0), (0, 0), (0, 0), (0, 0), (0, 0), (0, 0), (0, 0), (5, 93), (0, 0), (0, 0), (0, 0), (0, 0), (0, 0), (5, 92), (0, 0), (0, 0), (5, 92), (0, 0)] = true := by decide +kernel
theorem am_k170 : am_ckM am_tb am_hd am_m170 [(0, 0), (5, 59), (0, 0), (0, 0), (0, 0), (0, 0), (0, 0), (0, 0), (5, 60), (0, 0), (0, 0), (6, 73), (0, 0), (0, 0), (0, 0), (5, 61), (0, 0), (0, 0), (6, 73), (0, 0), (0, 0), (0, 0), (0, 0), (0, 0), (0, 0), (0, 0), (0, 0), (5, 59), (0, 0), (0, 0), (0, 0), (0, 0), (0, 0), (0, 0), (5, 60), (0, 0), (0, 0), (6, 77), (0, 0), (0, 0), (5, 61), (0, 0), (0, 0), (6, 73), (0, 0), (0, 0), (0, 0), (5, 62), (0, 0), (0, 0), (6, 77), (0, 0), (5, 59), (0, 0), (0, 0), (0, 0), (0, 0), (0, 0), (0, 0), (0, 0), (0, 0)] = true := by decide +kernel
theorem am_k171 : am_ckM am_tb am_hd am_m171 [(0, 0), (0, 0), (5, 92), (0, 0), (0, 0), (0, 0), (6, 73), (0, 0), (0, 0), (5, 56), (0, 0), (0, 0), (0, 0), (0, 0), (0, 0), (5, 29), (0, 0), (0, 0), (0, 0), (5, 92), (0, 0), (0, 0), (0, 0), (5, 92), (0, 0), (0, 0), (5, 62), (0, 0), (0, 0), (6, 77), (0, 0), (0, 0), (0, 0), (5, 92), (0, 0), (0, 0), (0, 0), (0, 0), (5, 29), (0, 0), (0, 0), (0, 0), (0, 0), (0, 0), (0, 0), (5, 56), (0, 0), (5, 62), (0, 0), (0, 0), (6, 49), (0, 0), (6, 45), (0, 0), (6, 53), (0, 0), (5, 86), (0, 0), (0, 0), (0, 0), (5, 57), (0, 0), (5, 56), (0, 0), (5, 62), (0, 0), (0, 0), (0, 0), (0, 0), (0, 0), (5, 56), (0, 0), (0, 0), (5, 56), (0, 0)] = true := by decide +kernel
theorem am_k172 : am_ckM am_tb am_hd am_m172 [(0, 0), (5, 86), (0, 0), (0, 0), (0, 0), (5, 76), (0, 0), (0, 0), (0, 0), (0, 0), (0, 0), (5, 78), (0, 0), (0, 0), (0, 0), (0, 0), (5, 59), (0, 0), (0, 0), (0, 0), (0, 0), (0, 0), (0, 0), (0, 0), (5, 29), (0, 0), (0, 0), (0, 0), (5, 60), (0, 0), (0, 0), (0, 0), (0, 0), (0, 0), (5, 92), (0, 0), (0, 0), (0, 0), (6, 73), (0, 0), (0, 0), (5, 92), (0, 0), (0, 0), (0, 0), (5, 56), (0, 0), (0, 0), (0, 0), (5, 54), (0, 0), (0, 0), (0, 0), (5, 73), (0, 0), (0, 0), (0, 0), (0, 0), (0, 0), (5, 29), (0, 0), (0, 0), (0, 0), (5, 62), (0, 0), (5, 61), (0, 0), (0, 0), (0, 0), (0, 0), (0, 0), (5, 55), (0, 0), (5, 54), (0, 0), (5, 92), (0, 0), (0, 0), (0, 0), (5, 54), (0, 0), (5, 92), (0, 0), (0, 0), (5, 93), (0, 0), (0, 0), (0, 0), (0, 0), (0, 0), (5, 92), (0, 0), (0, 0), (0, 0), (5, 93), (0, 0), (0, 0), (0, 0), (0, 0), (5, 22), (0, 0), (0, 0), (5, 86), (0, 0), (0, 0), (0, 0), (0, 0), (0, 0), (0, 0), (5, 37), (0, 0), (0, 0), (5, 86), (0, 0), (0, 0), (0, 0), (0, 0), (0, 0), (0, 0), (5, 37), (0, 0), (0, 0), (0, 0), (0, 0), (6, 149), (0, 0), (0, 0), (0, 0), (0, 0), (6, 149), (0, 0), (0, 0), (0, 0), (5, 56), (0, 0), (6, 49), (0, 0), (0, 0), (0, 0), (5, 56), (0, 0), (0, 0), (0, 0), (6, 49), (0, 0), (0, 0), (0, 0), (0, 0), (0, 0), (0, 0), (0, 0), (6, 5), (6, 5), (0, 0), (6, 45), (0, 0), (0, 0), (0, 0), (0, 0), (0, 0), (0, 0), (0, 0), (6, 5), (6, 5), (0, 0), (6, 45), (0, 0), (0, 0), (0, 0), (0, 0), (0, 0), (6, 5), (0, 0), (6, 45), (0, 0), (0, 0), (5, 86), (0, 0), (0, 0), (0, 0), (5, 75), (0, 0), (5, 63), (0, 0), (0, 0), (0, 0), (0, 0), (5, 63), (0, 0), (0, 0), (0, 0), (0, 0), (0, 0), (0, 0), (0, 0), (0, 0), (5, 29), (0, 0), (0, 0), (0, 0), (6, 41), (0, 0), (0, 0), (0, 0), (6, 53), (0, 0), (6, 41), (0, 0), (0, 0), (0, 0), (6, 53), (0, 0), (0, 0), (5, 73), (0, 0), (0, 0), (6, 57), (0, 0), (5, 57), (0, 0), (5, 56), (0, 0), (0, 0), (0, 0), (5, 57), (0, 0), (5, 56), (0, 0), (0, 0), (0, 0), (0, 0), (0, 0), (0, 0), (5, 56), (0, 0), (0, 0), (5, 56), (0, 0), (0, 0), (5, 54), (0, 0), (0, 0), (5, 54), (0, 0)] = true := by decide +kernel
theorem am_k173 : am_ckM am_tb am_hd am_m173 [(0, 0), (5, 221), (0, 0), (0, 0), (0, 0), (6, 149), (0, 0)] = true := by decide +kernel
theorem am_k174 : am_ckM am_tb am_hd am_m174 [(0, 0), (0, 0), (0, 0), (5, 33), (6, 181), (0, 0), (0, 0), (5, 86), (0, 0), (0, 0), (0, 0), (0, 0), (0, 0), (0, 0), (6, 113), (0, 0), (0, 0), (0, 0), (0, 0), (6, 45), (0, 0)] = true := by decide +kernel
theorem am_k175 : am_ckM am_tb am_hd am_m175 [(0, 0), (6, 177), (0, 0), (0, 0), (5, 86), (0, 0), (0, 0), (0, 0), (0, 0), (5, 33), (0, 0), (0, 0), (0, 0), (0, 0), (5, 37), (0, 0), (0, 0), (0, 0), (0, 0), (5, 86), (0, 0), (0, 0), (0, 0), (0, 0), (0, 0), (0, 0), (5, 37), (6, 181), (0, 0), (0, 0), (5, 86), (0, 0), (0, 0), (0, 0), (0, 0), (0, 0), (0, 0), (0, 0), (0, 0), (0, 0), (6, 5), (0, 0), (6, 5), (6, 113), (0, 0), (0, 0), (5, 86), (0, 0), (0, 0), (0, 0), (0, 0), (0, 0), (0, 0), (0, 0), (0, 0), (0, 0), (0, 0), (0, 0), (6, 5), (0, 0), (6, 5), (6, 113), (6, 45), (0, 0)] = true := by decide +kernel
theorem am_k176 : am_ckM am_tb am_hd am_m176 [(0, 0), (0, 0), (0, 0), (0, 0), (6, 173), (0, 0), (6, 45), (0, 0)] = true := by decide +kernel
theorem am_k177 : am_ckM am_tb am_hd am_m177 [(0, 0), (5, 86), (0, 0), (0, 0), (0, 0), (0, 0), (0, 0), (0, 0), (6, 113), (0, 0), (0, 0), (6, 177), (0, 0), (0, 0), (5, 86), (0, 0), (0, 0), (0, 0), (0, 0), (0, 0), (0, 0), (0, 0), (0, 0), (6, 113), (6, 45), (0, 0)] = true := by decide +kernel
theorem am_k178 : am_ckM am_tb am_hd am_m178 [(0, 0), (5, 86), (0, 0), (0, 0), (0, 0), (0, 0), (5, 62), (0, 0), (0, 0), (0, 0), (0, 0), (0, 0), (0, 0), (5, 47), (0, 0), (0, 0), (5, 37), (0, 0), (0, 0), (0, 0), (0, 0), (0, 0), (6, 49), (0, 0), (6, 5), (0, 0)] = true := by decide +kernel
theorem am_k179 : am_ckM am_tb am_hd am_m179 [(0, 0), (5, 86), (0, 0), (0, 0), (0, 0), (0, 0), (0, 0), (0, 0), (6, 113), (0, 0), (0, 0), (0, 0), (0, 0), (0, 0), (6, 165), (6, 5), (0, 0)] = true := by decide +kernel
theorem am_k180 : am_ckM am_tb am_hd am_m180 [(0, 0), (0, 0), (0, 0), (5, 33), (6, 181), (0, 0), (0, 0), (0, 0), (0, 0), (0, 0), (0, 0), (6, 189), (6, 169), (0, 0)] = true := by decide +kernel
theorem am_k181 : am_ckM am_tb am_hd am_m181 [(0, 0), (0, 0), (0, 0), (0, 0), (5, 22), (0, 0), (0, 0), (0, 0), (0, 0), (0, 0), (5, 22), (0, 0), (0, 0), (5, 86), (0, 0), (0, 0), (0, 0), (0, 0), (0, 0), (0, 0), (5, 37), (0, 0), (0, 0), (0, 0), (0, 0), (6, 149), (0, 0), (0, 0), (0, 0), (0, 0), (6, 149), (0, 0), (0, 0), (5, 86), (0, 0), (0, 0), (0, 0), (0, 0), (0, 0), (0, 0), (0, 0), (0, 0), (0, 0), (6, 5), (6, 113), (0, 0), (6, 45), (0, 0)] = true := by decide +kernel
theorem am_k182 : am_ckM am_tb am_hd am_m182 [(0, 0), (0, 0), (0, 0), (0, 0), (5, 22), (0, 0), (0, 0), (0, 0), (0, 0), (6, 149), (0, 0), (0, 0), (0, 0), (0, 0), (5, 86), (0, 0), (0, 0), (0, 0), (0, 0), (0, 0), (0, 0), (5, 33), (5, 37), (6, 149), (0, 0), (0, 0), (5, 86), (0, 0), (0, 0), (0, 0), (0, 0), (0, 0), (0, 0), (0, 0), (6, 5), (0, 0), (0, 0), (0, 0), (0, 0), (6, 165), (6, 5), (6, 169), (0, 0)] = true := by decide +kernel
theorem am_k183 : am_ckM am_tb am_hd am_m183 [(0, 0), (0, 0), (0, 0), (0, 0), (5, 22), (0, 0), (0, 0), (0, 0), (0, 0), (5, 86), (0, 0), (0, 0), (0, 0), (0, 0), (0, 0), (0, 0), (5, 37), (6, 181), (0, 0), (0, 0), (0, 0), (0, 0), (6, 181), (0, 0), (0, 0), (0, 0), (0, 0), (6, 181), (0, 0), (0, 0), (5, 86), (0, 0), (0, 0), (0, 0), (0, 0), (0, 0), (0, 0), (6, 5), (0, 0), (0, 0), (0, 0), (0, 0), (0, 0), (0, 0), (0, 0), (6, 5), (6, 45), (0, 0), (0, 0), (0, 0), (6, 45), (6, 169), (0, 0), (0, 0), (0, 0), (0, 0), (0, 0), (0, 0), (6, 189), (6, 189), (0, 0), (0, 0), (0, 0), (0, 0), (0, 0), (0, 0), (0, 0), (0, 0), (0, 0), (6, 45), (6, 193), (6, 189), (6, 197), (0, 0), (0, 0), (0, 0), (0, 0), (0, 0), (0, 0), (6, 173), (6, 197), (0, 0)] = true := by decide +kernel
theorem am_k184 : am_ckM am_tb am_hd am_m184 [(0, 0), (5, 86), (0, 0), (0, 0), (0, 0), (0, 0), (5, 222), (0, 0), (0, 0), (0, 0), (0, 0), (5, 29), (0, 0), (0, 0), (0, 0), (6, 41), (0, 0), (0, 0), (0, 0), (0, 0), (6, 157), (0, 0), (0, 0), (0, 0), (0, 0), (0, 0), (6, 161), (0, 0), (0, 0), (6, 185), (0, 0), (6, 53), (0, 0)] = true := by decide +kernel
theorem am_k185 : am_ckM am_tb am_hd am_m185 [(0, 0), (0, 0), (5, 41), (0, 0), (5, 42), (0, 0), (0, 0), (0, 0), (0, 0), (0, 0), (5, 43), (0, 0), (5, 42), (0, 0), (0, 0), (0, 0), (0, 0), (5, 42), (0, 0), (0, 0), (5, 42), (0, 0), (0, 0)] = true := by decide +kernel
theorem am_k186 : am_ckM am_tb am_hd am_m186 [(0, 0), (5, 45), (0, 0), (0, 0), (0, 0), (0, 0), (5, 45), (0, 0), (0, 0), (5, 45), (0, 0), (5, 52), (0, 0), (5, 46), (0, 0), (5, 45), (0, 0), (0, 0), (5, 47), (0, 0), (5, 45), (0, 0), (0, 0), (5, 48), (0, 0), (5, 45), (0, 0), (0, 0), (5, 26), (0, 0), (5, 51), (0, 0), (5, 45), (0, 0), (0, 0), (0, 0), (0, 0)] = true := by decide +kernel
theorem am_k187 : am_ckM am_tb am_hd am_m187 [(0, 0), (5, 58), (0, 0), (0, 0), (0, 0), (0, 0), (5, 58), (0, 0), (0, 0), (5, 58), (0, 0), (5, 67), (0, 0), (5, 59), (0, 0), (5, 58), (0, 0), (0, 0), (5, 60), (0, 0), (5, 58), (0, 0), (0, 0), (5, 61), (0, 0), (5, 58), (0, 0), (0, 0), (5, 62), (0, 0), (5, 58), (0, 0), (5, 26), (0, 0), (5, 66), (0, 0), (5, 58), (0, 0), (0, 0), (0, 0), (0, 0)] = true := by decide +kernel
theorem am_k188 : am_ckM am_tb am_hd am_m188 [(0, 0), (0, 0), (5, 41), (0, 0), (0, 0), (5, 90), (0, 0), (0, 0), (5, 44), (0, 0), (0, 0), (5, 86), (0, 0), (0, 0), (0, 0), (5, 90), (0, 0), (5, 42), (0, 0), (0, 0), (5, 86), (0, 0), (0, 0), (5, 90), (0, 0), (0, 0), (5, 58), (0, 0), (0, 0), (5, 45), (0, 0), (0, 0), (5, 213), (0, 0), (0, 0), (0, 0), (0, 0), (0, 0), (0, 0), (0, 0), (0, 0), (0, 0), (0, 0), (0, 0), (0, 0), (0, 0), (0, 0), (5, 29), (0, 0), (0, 0), (0, 0), (0, 0), (0, 0), (0, 0), (0, 0), (5, 217), (0, 0), (0, 0), (0, 0), (0, 0), (0, 0), (0, 0), (5, 233), (0, 0), (0, 0), (0, 0), (6, 29), (0, 0), (5, 86), (0, 0), (0, 0), (0, 0), (5, 44), (0, 0), (0, 0), (6, 201), (0, 0), (0, 0), (6, 205), (0, 0), (0, 0), (0, 0), (0, 0), (0, 0), (0, 0), (0, 0), (0, 0), (0, 0), (0, 0), (0, 0), (0, 0), (0, 0), (5, 42), (0, 0), (0, 0)] = true := by decide +kernel
theorem am_k189 : am_ckM am_tb am_hd am_m189 [(0, 0), (0, 0), (5, 41), (0, 0), (5, 44), (0, 0)] = true := by decide +kernel
theorem am_k190 : am_ckM am_tb am_hd am_m190 [(0, 0), (0, 0), (5, 41), (0, 0), (5, 73), (0, 0)] = true := by decide +kernel
theorem am_k191 : am_ckM am_tb am_hd am_m191 [(0, 0), (0, 0), (0, 0), (5, 73), (5, 222), (0, 0), (0, 0), (0, 0), (0, 0), (5, 41), (0, 0), (5, 41), (0, 0), (0, 0), (0, 0), (0, 0), (5, 78), (0, 0), (0, 0), (0, 0)] = true := by decide +kernel
theorem am_k192 : am_ckM am_tb am_hd am_m192 [(0, 0), (0, 0), (0, 0), (0, 0), (0, 0), (0, 0), (0, 0), (0, 0), (5, 59), (0, 0), (0, 0), (0, 0), (0, 0), (0, 0), (5, 61), (0, 0), (0, 0), (0, 0), (0, 0), (0, 0), (0, 0), (5, 63), (0, 0), (5, 60), (0, 0), (0, 0), (0, 0), (0, 0), (0, 0), (5, 60), (0, 0), (0, 0), (0, 0), (0, 0), (0, 0), (0, 0), (5, 63), (0, 0), (5, 60), (0, 0), (0, 0), (0, 0), (0, 0), (0, 0), (0, 0), (5, 61), (0, 0), (0, 0), (0, 0), (0, 0), (0, 0), (0, 0)] = true := by decide +kernel
theorem am_k193 : am_ckM am_tb am_hd am_m193 [(0, 0), (0, 0), (0, 0), (5, 73), (5, 222), (0, 0), (0, 0), (0, 0), (0, 0), (0, 0), (0, 0), (5, 78), (0, 0), (0, 0), (0, 0), (0, 0), (0, 0), (0, 0), (5, 41), (0, 0), (5, 41), (0, 0), (0, 0), (0, 0), (0, 0), (0, 0), (0, 0), (5, 76), (0, 0), (0, 0), (0, 0), (0, 0), (5, 84), (0, 0), (5, 77), (0, 0), (0, 0), (0, 0), (0, 0), (0, 0), (0, 0), (0, 0), (0, 0), (0, 0), (5, 63), (0, 0), (0, 0), (5, 222), (0, 0), (0, 0), (0, 0), (0, 0), (5, 41), (0, 0), (5, 41), (0, 0), (0, 0), (0, 0), (0, 0), (0, 0), (0, 0), (6, 229), (0, 0)] = true := by decide +kernel
theorem am_k194 : am_ckM am_tb am_hd am_m194 [(0, 0), (0, 0), (0, 0), (0, 0), (6, 225), (0, 0), (0, 0), (5, 41), (0, 0), (0, 0), (0, 0), (0, 0), (5, 59), (0, 0), (0, 0), (0, 0), (0, 0), (0, 0), (0, 0), (0, 0), (0, 0), (0, 0), (0, 0), (0, 0), (0, 0), (0, 0), (0, 0), (0, 0), (5, 60), (0, 0), (0, 0), (0, 0), (0, 0), (0, 0), (0, 0), (0, 0), (0, 0), (0, 0), (0, 0), (0, 0), (0, 0), (0, 0), (0, 0), (0, 0), (0, 0)] = true := by decide +kernel
theorem am_k195 : am_ckM am_tb am_hd am_m195 [(0, 0), (0, 0), (0, 0), (0, 0), (6, 225), (0, 0), (0, 0), (5, 41), (0, 0), (0, 0), (0, 0), (0, 0), (5, 62), (0, 0), (0, 0), (0, 0), (0, 0), (0, 0), (0, 0), (5, 49), (0, 0), (0, 0), (5, 222), (0, 0), (0, 0), (0, 0), (0, 0), (5, 41), (0, 0), (5, 41), (0, 0), (0, 0), (0, 0), (0, 0), (0, 0), (0, 0), (0, 0), (0, 0), (0, 0), (0, 0), (5, 49), (0, 0), (5, 47), (0, 0), (0, 0), (0, 0), (0, 0), (0, 0), (0, 0), (0, 0), (0, 0), (0, 0), (0, 0), (0, 0), (0, 0), (0, 0), (0, 0), (5, 49), (0, 0), (5, 47), (0, 0), (0, 0), (0, 0), (0, 0), (0, 0), (0, 0), (0, 0), (0, 0), (5, 47), (0, 0), (0, 0), (0, 0), (0, 0), (5, 48), (0, 0), (0, 0), (0, 0), (0, 0), (0, 0), (5, 46), (0, 0), (0, 0), (0, 0)] = true := by decide +kernel
theorem am_k196 : am_ckM am_tb am_hd am_m196 [(0, 0), (0, 0), (0, 0), (0, 0), (5, 73), (0, 0), (0, 0), (0, 0), (0, 0), (0, 0), (0, 0), (0, 0), (0, 0), (0, 0), (0, 0), (0, 0), (5, 73), (0, 0), (0, 0), (5, 79), (0, 0), (0, 0), (0, 0), (0, 0), (0, 0), (5, 79), (0, 0), (0, 0), (0, 0), (0, 0), (0, 0), (0, 0), (0, 0), (0, 0), (0, 0), (0, 0), (0, 0), (0, 0)] = true := by decide +kernel
theorem am_k197 : am_ckM am_tb am_hd am_m197 [(0, 0), (0, 0), (0, 0), (0, 0), (5, 73), (0, 0), (0, 0), (0, 0), (5, 75), (0, 0), (5, 63), (0, 0), (5, 76), (0, 0), (0, 0), (0, 0), (0, 0), (5, 75), (0, 0), (0, 0), (0, 0), (0, 0), (5, 78), (0, 0), (0, 0), (0, 0), (0, 0), (0, 0), (5, 75), (0, 0), (5, 63), (0, 0), (5, 84), (0, 0), (5, 77), (0, 0), (0, 0), (0, 0), (0, 0), (0, 0), (0, 0), (0, 0), (5, 75), (0, 0), (0, 0), (0, 0), (0, 0), (0, 0), (0, 0), (0, 0), (5, 73), (0, 0), (0, 0), (5, 77), (0, 0), (0, 0), (0, 0), (0, 0), (5, 74), (5, 74), (0, 0), (0, 0), (5, 73), (0, 0), (0, 0), (0, 0), (0, 0), (5, 80), (0, 0), (0, 0), (0, 0), (0, 0), (0, 0), (0, 0), (6, 201), (0, 0), (0, 0), (0, 0), (0, 0), (5, 81), (0, 0), (0, 0), (0, 0), (0, 0), (0, 0), (0, 0), (5, 85), (6, 205), (0, 0), (0, 0), (0, 0), (0, 0), (5, 82), (0, 0), (0, 0), (0, 0), (0, 0), (0, 0), (0, 0), (5, 69), (0, 0), (0, 0), (0, 0), (0, 0), (5, 83), (0, 0), (0, 0), (0, 0), (0, 0), (0, 0), (0, 0), (5, 70), (0, 0)] = true := by decide +kernel
theorem am_k198 : am_ckM am_tb am_hd am_m198 [(0, 0), (0, 0), (0, 0), (7, 1), (0, 0), (0, 0), (0, 0), (0, 0), (5, 41), (0, 0), (5, 41), (0, 0), (0, 0), (0, 0), (7, 5), (0, 0)] = true := by decide +kernel
theorem am_k199 : am_ckM am_tb am_hd am_m199 [(0, 0), (5, 58), (0, 0), (0, 0), (0, 0), (0, 0), (0, 0), (0, 0), (0, 0), (5, 68), (0, 0), (0, 0), (0, 0), (0, 0), (0, 0), (0, 0), (0, 0), (0, 0), (0, 0), (0, 0), (0, 0), (0, 0), (0, 0), (0, 0), (5, 45), (0, 0), (0, 0), (5, 53), (0, 0), (0, 0), (0, 0), (0, 0), (0, 0), (0, 0), (0, 0), (0, 0), (0, 0), (0, 0), (0, 0), (0, 0), (0, 0), (5, 68), (0, 0), (0, 0), (0, 0), (0, 0), (0, 0), (0, 0), (5, 62), (0, 0), (0, 0), (0, 0), (0, 0), (0, 0), (5, 53), (0, 0), (5, 62), (0, 0), (0, 0), (0, 0), (0, 0), (0, 0), (5, 59), (0, 0), (0, 0), (0, 0), (0, 0), (0, 0), (5, 60), (0, 0), (0, 0), (0, 0), (0, 0), (0, 0), (5, 53), (0, 0), (5, 60), (0, 0), (0, 0), (0, 0), (0, 0), (0, 0), (5, 59), (0, 0), (0, 0), (0, 0), (0, 0), (0, 0), (5, 60), (0, 0), (0, 0), (0, 0), (0, 0), (0, 0), (5, 68), (0, 0), (5, 60), (0, 0), (0, 0), (0, 0), (0, 0), (0, 0), (5, 59), (0, 0), (0, 0), (0, 0), (0, 0), (0, 0), (5, 59), (0, 0), (0, 0), (0, 0), (0, 0), (0, 0), (5, 61), (0, 0), (0, 0), (0, 0), (0, 0), (0, 0), (5, 68), (0, 0), (5, 61), (0, 0), (0, 0), (0, 0), (0, 0), (0, 0), (0, 0), (0, 0), (5, 45), (0, 0), (0, 0), (0, 0), (0, 0), (0, 0), (0, 0), (0, 0), (5, 53), (0, 0), (0, 0), (0, 0), (0, 0), (0, 0), (0, 0), (5, 47), (0, 0), (0, 0), (0, 0), (0, 0), (0, 0), (5, 53), (0, 0), (5, 47), (0, 0), (0, 0), (0, 0), (0, 0), (0, 0), (5, 48), (0, 0), (0, 0), (0, 0), (0, 0), (0, 0), (5, 53), (0, 0), (5, 48), (0, 0), (0, 0), (0, 0), (0, 0), (0, 0), (0, 0), (0, 0)] = true := by decide +kernel
theorem am_k200 : am_ckM am_tb am_hd am_m200 [(0, 0), (0, 0), (0, 0), (5, 73), (5, 222), (0, 0), (0, 0), (0, 0), (0, 0), (5, 78), (0, 0), (0, 0), (0, 0), (0, 0), (0, 0), (0, 0), (0, 0), (7, 1), (0, 0), (0, 0), (0, 0), (0, 0), (0, 0), (0, 0), (0, 0), (5, 41), (0, 0), (5, 41), (0, 0), (0, 0), (0, 0), (5, 76), (0, 0), (0, 0), (0, 0), (0, 0), (0, 0), (0, 0), (5, 80), (0, 0), (0, 0), (0, 0), (0, 0), (0, 0), (0, 0), (0, 0), (0, 0), (0, 0), (0, 0), (5, 81), (0, 0), (0, 0), (0, 0), (0, 0), (0, 0), (0, 0), (5, 85), (0, 0), (0, 0), (0, 0), (0, 0), (0, 0), (7, 13), (0, 0), (5, 58), (0, 0), (0, 0), (5, 45), (0, 0), (0, 0), (0, 0), (7, 5), (0, 0), (0, 0), (5, 86), (0, 0), (0, 0), (0, 0), (0, 0), (0, 0), (0, 0), (5, 53), (0, 0), (0, 0), (0, 0), (0, 0), (0, 0), (0, 0), (5, 53), (0, 0), (0, 0), (0, 0), (5, 46), (0, 0), (0, 0), (0, 0), (5, 47), (0, 0), (0, 0), (0, 0), (0, 0), (0, 0), (5, 53), (0, 0), (5, 47), (0, 0), (0, 0), (0, 0), (0, 0), (0, 0), (5, 47), (0, 0), (0, 0), (0, 0), (5, 48), (0, 0), (0, 0), (0, 0), (0, 0), (0, 0), (5, 53), (0, 0), (5, 48), (0, 0), (0, 0), (0, 0), (0, 0), (0, 0), (5, 48), (0, 0), (0, 0), (5, 22), (0, 0), (0, 0), (0, 0), (0, 0), (0, 0), (0, 0), (0, 0), (0, 0), (0, 0), (5, 68), (0, 0), (0, 0), (0, 0), (0, 0), (0, 0), (0, 0), (5, 60), (0, 0), (0, 0), (0, 0), (0, 0), (5, 59), (0, 0), (0, 0), (0, 0), (0, 0), (0, 0), (0, 0), (0, 0), (0, 0), (5, 68), (0, 0), (0, 0), (0, 0), (0, 0), (5, 59), (0, 0), (0, 0), (0, 0), (0, 0), (0, 0), (0, 0), (0, 0), (0, 0), (5, 53), (0, 0), (0, 0), (0, 0), (0, 0), (5, 59), (0, 0), (0, 0), (0, 0), (0, 0), (0, 0), (5, 59), (0, 0), (0, 0), (0, 0), (0, 0), (0, 0), (5, 61), (0, 0), (0, 0), (0, 0), (0, 0), (0, 0), (5, 68), (0, 0), (5, 61), (0, 0), (0, 0), (0, 0), (0, 0), (0, 0), (5, 61), (0, 0), (0, 0), (0, 0), (0, 0), (0, 0), (0, 0), (5, 68), (0, 0), (0, 0), (0, 0), (5, 59), (0, 0), (0, 0), (0, 0), (0, 0), (0, 0), (5, 62), (0, 0), (0, 0), (0, 0), (0, 0), (0, 0), (5, 53), (0, 0), (5, 62), (0, 0), (0, 0), (0, 0), (0, 0), (0, 0), (5, 62), (0, 0), (0, 0), (6, 9), (0, 0), (0, 0), (0, 0), (0, 0), (6, 41), (0, 0), (0, 0), (0, 0), (0, 0), (0, 0), (5, 68), (0, 0), (0, 0), (0, 0), (0, 0), (0, 0), (6, 53), (0, 0)] = true := by decide +kernel
theorem am_ok_all : ∀ mi M, am_tb mi = some M → am_okM am_tb M := by
  intro x M hM
  match x, hM with
  | 0, hM => cases hM; exact am_ckM_ok am_base_ok am_cal_all am_k0
  | 1, hM => cases hM; exact am_ckM_ok am_base_ok am_cal_all am_k1
  | 2, hM => cases hM; exact am_ckM_ok am_base_ok am_cal_all am_k2
  | 3, hM => cases hM; exact am_ckM_ok am_base_ok am_cal_all am_k3
  | 4, hM => cases hM; exact am_ckM_ok am_base_ok am_cal_all am_k4
  | 5, hM => cases hM; exact am_ckM_ok am_base_ok am_cal_all am_k5
  | 6, hM => cases hM; exact am_ckM_ok am_base_ok am_cal_all am_k6
  | 7, hM => cases hM; exact am_ckM_ok am_base_ok am_cal_all am_k7
  | 8, hM => cases hM; exact am_ckM_ok am_base_ok am_cal_all am_k8
  | 9, hM => cases hM; exact am_ckM_ok am_base_ok am_cal_all am_k9
  | 10, hM => cases hM; exact am_ckM_ok am_base_ok am_cal_all am_k10
  | 11, hM => cases hM; exact am_ckM_ok am_base_ok am_cal_all am_k11
  | 12, hM => cases hM; exact am_ckM_ok am_base_ok am_cal_all am_k12
  | 13, hM => cases hM; exact am_ckM_ok am_base_ok am_cal_all am_k13
  | 14, hM => cases hM; exact am_ckM_ok am_base_ok am_cal_all am_k14
  | 15, hM => cases hM; exact am_ckM_ok am_base_ok am_cal_all am_k15
  | 16, hM => cases hM; exact am_ckM_ok am_base_ok am_cal_all am_k16
  | 17, hM => cases hM; exact am_ckM_ok am_base_ok am_cal_all am_k17
  | 18, hM => cases hM; exact am_ckM_ok am_base_ok am_cal_all am_k18
  | 19, hM => cases hM; exact am_ckM_ok am_base_ok am_cal_all am_k19
  | 20, hM => cases hM; exact am_ckM_ok am_base_ok am_cal_all am_k20
  | 21, hM => cases hM; exact am_ckM_ok am_base_ok am_cal_all am_k21
  | 22, hM => cases hM; exact am_ckM_ok am_base_ok am_cal_all am_k22
  | 23, hM => cases hM; exact am_ckM_ok am_base_ok am_cal_all am_k23
  | 24, hM => cases hM; exact am_ckM_ok am_base_ok am_cal_all am_k24
  | 25, hM => cases hM; exact am_ckM_ok am_base_ok am_cal_all am_k25
  | 26, hM => cases hM; exact am_ckM_ok am_base_ok am_cal_all am_k26
  | 27, hM => cases hM; exact am_ckM_ok am_base_ok am_cal_all am_k27
  | 28, hM => cases hM; exact am_ckM_ok am_base_ok am_cal_all am_k28
  | 29, hM => cases hM; exact am_ckM_ok am_base_ok am_cal_all am_k29
  | 30, hM => cases hM; exact am_ckM_ok am_base_ok am_cal_all am_k30
  | 31, hM => cases hM; exact am_ckM_ok am_base_ok am_cal_all am_k31
  | 32, hM => cases hM; exact am_ckM_ok am_base_ok am_cal_all am_k32
  | 33, hM => cases hM; exact am_ckM_ok am_base_ok am_cal_all am_k33
  | 34, hM => cases hM; exact am_ckM_ok am_base_ok am_cal_all am_k34
  | 35, hM => cases hM; exact am_ckM_ok am_base_ok am_cal_all am_k35
  | 36, hM => cases hM; exact am_ckM_ok am_base_ok am_cal_all am_k36
  | 37, hM => cases hM; exact am_ckM_ok am_base_ok am_cal_all am_k37
  | 38, hM => cases hM; exact am_ckM_ok am_base_ok am_cal_all am_k38
  | 39, hM => cases hM; exact am_ckM_ok am_base_ok am_cal_all am_k39
  | 40, hM => cases hM; exact am_ckM_ok am_base_ok am_cal_all am_k40
  | 41, hM => cases hM; exact am_ckM_ok am_base_ok am_cal_all am_k41
  | 42, hM => cases hM; exact am_ckM_ok am_base_ok am_cal_all am_k42
  | 43, hM => cases hM; exact am_ckM_ok am_base_ok am_cal_all am_k43
  | 44, hM => cases hM; exact am_ckM_ok am_base_ok am_cal_all am_k44
  | 45, hM => cases hM; exact am_ckM_ok am_base_ok am_cal_all am_k45
  | 46, hM => cases hM; exact am_ckM_ok am_base_ok am_cal_all am_k46
  | 47, hM => cases hM; exact am_ckM_ok am_base_ok am_cal_all am_k47
  | 48, hM => cases hM; exact am_ckM_ok am_base_ok am_cal_all am_k48
  | 49, hM => cases hM; exact am_ckM_ok am_base_ok am_cal_all am_k49
  | 50, hM => cases hM; exact am_ckM_ok am_base_ok am_cal_all am_k50
  | 51, hM => cases hM; exact am_ckM_ok am_base_ok am_cal_all am_k51
  | 52, hM => cases hM; exact am_ckM_ok am_base_ok am_cal_all am_k52
  | 53, hM => cases hM; exact am_ckM_ok am_base_ok am_cal_all am_k53
  | 54, hM => cases hM; exact am_ckM_ok am_base_ok am_cal_all am_k54
  | 55, hM => cases hM; exact am_ckM_ok am_base_ok am_cal_all am_k55
  | 56, hM => cases hM; exact am_ckM_ok am_base_ok am_cal_all am_k56
  | 57, hM => cases hM; exact am_ckM_ok am_base_ok am_cal_all am_k57
  | 58, hM => cases hM; exact am_ckM_ok am_base_ok am_cal_all am_k58
  | 59, hM => cases hM; exact am_ckM_ok am_base_ok am_cal_all am_k59
  | 60, hM => cases hM; exact am_ckM_ok am_base_ok am_cal_all am_k60
  | 61, hM => cases hM; exact am_ckM_ok am_base_ok am_cal_all am_k61
  | 62, hM => cases hM; exact am_ckM_ok am_base_ok am_cal_all am_k62
  | 63, hM => cases hM; exact am_ckM_ok am_base_ok am_cal_all am_k63
  | 64, hM => cases hM; exact am_ckM_ok am_base_ok am_cal_all am_k64
  | 65, hM => cases hM; exact am_ckM_ok am_base_ok am_cal_all am_k65
  | 66, hM => cases hM; exact am_ckM_ok am_base_ok am_cal_all am_k66
  | 67, hM => cases hM; exact am_ckM_ok am_base_ok am_cal_all am_k67
  | 68, hM => cases hM; exact am_ckM_ok am_base_ok am_cal_all am_k68
  | 69, hM => cases hM; exact am_ckM_ok am_base_ok am_cal_all am_k69
  | 70, hM => cases hM; exact am_ckM_ok am_base_ok am_cal_all am_k70
  | 71, hM => cases hM; exact am_ckM_ok am_base_ok am_cal_all am_k71
  | 72, hM => cases hM; exact am_ckM_ok am_base_ok am_cal_all am_k72
  | 73, hM => cases hM; exact am_ckM_ok am_base_ok am_cal_all am_k73
  | 74, hM => cases hM; exact am_ckM_ok am_base_ok am_cal_all am_k74
  | 75, hM => cases hM; exact am_ckM_ok am_base_ok am_cal_all am_k75
  | 76, hM => cases hM; exact am_ckM_ok am_base_ok am_cal_all am_k76
  | 77, hM => cases hM; exact am_ckM_ok am_base_ok am_cal_all am_k77
  | 78, hM => cases hM; exact am_ckM_ok am_base_ok am_cal_all am_k78
  | 79, hM => cases hM; exact am_ckM_ok am_base_ok am_cal_all am_k79
  | 80, hM => cases hM; exact am_ckM_ok am_base_ok am_cal_all am_k80
  | 81, hM => cases hM; exact am_ckM_ok am_base_ok am_cal_all am_k81
  | 82, hM => cases hM; exact am_ckM_ok am_base_ok am_cal_all am_k82
  | 83, hM => cases hM; exact am_ckM_ok am_base_ok am_cal_all am_k83
  | 84, hM => cases hM; exact am_ckM_ok am_base_ok am_cal_all am_k84
  | 85, hM => cases hM; exact am_ckM_ok am_base_ok am_cal_all am_k85
  | 86, hM => cases hM; exact am_ckM_ok am_base_ok am_cal_all am_k86
  | 87, hM => cases hM; exact am_ckM_ok am_base_ok am_cal_all am_k87
  | 88, hM => cases hM; exact am_ckM_ok am_base_ok am_cal_all am_k88
  | 89, hM => cases hM; exact am_ckM_ok am_base_ok am_cal_all am_k89
  | 90, hM => cases hM; exact am_ckM_ok am_base_ok am_cal_all am_k90
  | 91, hM => cases hM; exact am_ckM_ok am_base_ok am_cal_all am_k91
  | 92, hM => cases hM; exact am_ckM_ok am_base_ok am_cal_all am_k92
  | 93, hM => cases hM; exact am_ckM_ok am_base_ok am_cal_all am_k93
  | 94, hM => cases hM; exact am_ckM_ok am_base_ok am_cal_all am_k94
  | 95, hM => cases hM; exact am_ckM_ok am_base_ok am_cal_all am_k95
  | 96, hM => cases hM; exact am_ckM_ok am_base_ok am_cal_all am_k96
  | 97, hM => cases hM; exact am_ckM_ok am_base_ok am_cal_all am_k97
  | 98, hM => cases hM; exact am_ckM_ok am_base_ok am_cal_all am_k98
  | 99, hM => cases hM; exact am_ckM_ok am_base_ok am_cal_all am_k99
  | 100, hM => cases hM; exact am_ckM_ok am_base_ok am_cal_all am_k100
  | 101, hM => cases hM; exact am_ckM_ok am_base_ok am_cal_all am_k101
  | 102, hM => cases hM; exact am_ckM_ok am_base_ok am_cal_all am_k102
  | 103, hM => cases hM; exact am_ckM_ok am_base_ok am_cal_all am_k103
  | 104, hM => cases hM; exact am_ckM_ok am_base_ok am_cal_all am_k104
  | 105, hM => cases hM; exact am_ckM_ok am_base_ok am_cal_all am_k105
  | 106, hM => cases hM; exact am_ckM_ok am_base_ok am_cal_all am_k106
  | 107, hM => cases hM; exact am_ckM_ok am_base_ok am_cal_all am_k107
  | 108, hM => cases hM; exact am_ckM_ok am_base_ok am_cal_all am_k108
  | 109, hM => cases hM; exact am_ckM_ok am_base_ok am_cal_all am_k109
  | 110, hM => cases hM; exact am_ckM_ok am_base_ok am_cal_all am_k110
  | 111, hM => cases hM; exact am_ckM_ok am_base_ok am_cal_all am_k111
  | 112, hM => cases hM; exact am_ckM_ok am_base_ok am_cal_all am_k112
  | 113, hM => cases hM; exact am_ckM_ok am_base_ok am_cal_all am_k113
  | 114, hM => cases hM; exact am_ckM_ok am_base_ok am_cal_all am_k114
  | 115, hM => cases hM; exact am_ckM_ok am_base_ok am_cal_all am_k115
  | 116, hM => cases hM; exact am_ckM_ok am_base_ok am_cal_all am_k116
  | 117, hM => cases hM; exact am_ckM_ok am_base_ok am_cal_all am_k117
  | 118, hM => cases hM; exact am_ckM_ok am_base_ok am_cal_all am_k118
  | 119, hM => cases hM; exact am_ckM_ok am_base_ok am_cal_all am_k119
  | 120, hM => cases hM; exact am_ckM_ok am_base_ok am_cal_all am_k120
  | 121, hM => cases hM; exact am_ckM_ok am_base_ok am_cal_all am_k121
  | 122, hM => cases hM; exact am_ckM_ok am_base_ok am_cal_all am_k122
  | 123, hM => cases hM; exact am_ckM_ok am_base_ok am_cal_all am_k123
  | 124, hM => cases hM; exact am_ckM_ok am_base_ok am_cal_all am_k124
  | 125, hM => cases hM; exact am_ckM_ok am_base_ok am_cal_all am_k125
  | 126, hM => cases hM; exact am_ckM_ok am_base_ok am_cal_all am_k126
  | 127, hM => cases hM; exact am_ckM_ok am_base_ok am_cal_all am_k127
  | 128, hM => cases hM; exact am_ckM_ok am_base_ok am_cal_all am_k128
  | 129, hM => cases hM; exact am_ckM_ok am_base_ok am_cal_all am_k129
  | 130, hM => cases hM; exact am_ckM_ok am_base_ok am_cal_all am_k130
  | 131, hM => cases hM; exact am_ckM_ok am_base_ok am_cal_all am_k131
  | 132, hM => cases hM; exact am_ckM_ok am_base_ok am_cal_all am_k132
  | 133, hM => cases hM; exact am_ckM_ok am_base_ok am_cal_all am_k133
  | 134, hM => cases hM; exact am_ckM_ok am_base_ok am_cal_all am_k134
  | 135, hM => cases hM; exact am_ckM_ok am_base_ok am_cal_all am_k135
  | 136, hM => cases hM; exact am_ckM_ok am_base_ok am_cal_all am_k136
  | 137, hM => cases hM; exact am_ckM_ok am_base_ok am_cal_all am_k137
  | 138, hM => cases hM; exact am_ckM_ok am_base_ok am_cal_all am_k138
  | 139, hM => cases hM; exact am_ckM_ok am_base_ok am_cal_all am_k139
  | 140, hM => cases hM; exact am_ckM_ok am_base_ok am_cal_all am_k140
  | 141, hM => cases hM; exact am_ckM_ok am_base_ok am_cal_all am_k141
  | 142, hM => cases hM; exact am_ckM_ok am_base_ok am_cal_all am_k142
  | 143, hM => cases hM; exact am_ckM_ok am_base_ok am_cal_all am_k143
  | 144, hM => cases hM; exact am_ckM_ok am_base_ok am_cal_all am_k144
  | 145, hM => cases hM; exact am_ckM_ok am_base_ok am_cal_all am_k145
  | 146, hM => cases hM; exact am_ckM_ok am_base_ok am_cal_all am_k146
  | 147, hM => cases hM; exact am_ckM_ok am_base_ok am_cal_all am_k147
  | 148, hM => cases hM; exact am_ckM_ok am_base_ok am_cal_all am_k148
  | 149, hM => cases hM; exact am_ckM_ok am_base_ok am_cal_all am_k149
  | 150, hM => cases hM; exact am_ckM_ok am_base_ok am_cal_all am_k150
  | 151, hM => cases hM; exact am_ckM_ok am_base_ok am_cal_all am_k151
  | 152, hM => cases hM; exact am_ckM_ok am_base_ok am_cal_all am_k152
  | 153, hM => cases hM; exact am_ckM_ok am_base_ok am_cal_all am_k153
  | 154, hM => cases hM; exact am_ckM_ok am_base_ok am_cal_all am_k154
  | 155, hM => cases hM; exact am_ckM_ok am_base_ok am_cal_all am_k155
  | 156, hM => cases hM; exact am_ckM_ok am_base_ok am_cal_all am_k156
  | 157, hM => cases hM; exact am_ckM_ok am_base_ok am_cal_all am_k157
  | 158, hM => cases hM; exact am_ckM_ok am_base_ok am_cal_all am_k158
  | 159, hM => cases hM; exact am_ckM_ok am_base_ok am_cal_all am_k159
  | 160, hM => cases hM; exact am_ckM_ok am_base_ok am_cal_all am_k160
  | 161, hM => cases hM; exact am_ckM_ok am_base_ok am_cal_all am_k161
  | 162, hM => cases hM; exact am_ckM_ok am_base_ok am_cal_all am_k162
  | 163, hM => cases hM; exact am_ckM_ok am_base_ok am_cal_all am_k163
  | 164, hM => cases hM; exact am_ckM_ok am_base_ok am_cal_all am_k164
  | 165, hM => cases hM; exact am_ckM_ok am_base_ok am_cal_all am_k165
  | 166, hM => cases hM; exact am_ckM_ok am_base_ok am_cal_all am_k166
  | 167, hM => cases hM; exact am_ckM_ok am_base_ok am_cal_all am_k167
  | 168, hM => cases hM; exact am_ckM_ok am_base_ok am_cal_all am_k168
  | 169, hM => cases hM; exact am_ckM_ok am_base_ok am_cal_all am_k169
  | 170, hM => cases hM; exact am_ckM_ok am_base_ok am_cal_all am_k170
  | 171, hM => cases hM; exact am_ckM_ok am_base_ok am_cal_all am_k171
  | 172, hM => cases hM; exact am_ckM_ok am_base_ok am_cal_all am_k172
  | 173, hM => cases hM; exact am_ckM_ok am_base_ok am_cal_all am_k173
  | 174, hM => cases hM; exact am_ckM_ok am_base_ok am_cal_all am_k174
  | 175, hM => cases hM; exact am_ckM_ok am_base_ok am_cal_all am_k175
  | 176, hM => cases hM; exact am_ckM_ok am_base_ok am_cal_all am_k176
  | 177, hM => cases hM; exact am_ckM_ok am_base_ok am_cal_all am_k177
  | 178, hM => cases hM; exact am_ckM_ok am_base_ok am_cal_all am_k178
  | 179, hM => cases hM; exact am_ckM_ok am_base_ok am_cal_all am_k179
  | 180, hM => cases hM; exact am_ckM_ok am_base_ok am_cal_all am_k180
  | 181, hM => cases hM; exact am_ckM_ok am_base_ok am_cal_all am_k181
  | 182, hM => cases hM; exact am_ckM_ok am_base_ok am_cal_all am_k182
  | 183, hM => cases hM; exact am_ckM_ok am_base_ok am_cal_all am_k183
  | 184, hM => cases hM; exact am_ckM_ok am_base_ok am_cal_all am_k184
  | 185, hM => cases hM; exact am_ckM_ok am_base_ok am_cal_all am_k185
  | 186, hM => cases hM; exact am_ckM_ok am_base_ok am_cal_all am_k186
  | 187, hM => cases hM; exact am_ckM_ok am_base_ok am_cal_all am_k187
  | 188, hM => cases hM; exact am_ckM_ok am_base_ok am_cal_all am_k188
  | 189, hM => cases hM; exact am_ckM_ok am_base_ok am_cal_all am_k189
  | 190, hM => cases hM; exact am_ckM_ok am_base_ok am_cal_all am_k190
  | 191, hM => cases hM; exact am_ckM_ok am_base_ok am_cal_all am_k191
  | 192, hM => cases hM; exact am_ckM_ok am_base_ok am_cal_all am_k192
  | 193, hM => cases hM; exact am_ckM_ok am_base_ok am_cal_all am_k193
  | 194, hM => cases hM; exact am_ckM_ok am_base_ok am_cal_all am_k194
  | 195, hM => cases hM; exact am_ckM_ok am_base_ok am_cal_all am_k195
  | 196, hM => cases hM; exact am_ckM_ok am_base_ok am_cal_all am_k196
  | 197, hM => cases hM; exact am_ckM_ok am_base_ok am_cal_all am_k197
  | 198, hM => cases hM; exact am_ckM_ok am_base_ok am_cal_all am_k198
  | 199, hM => cases hM; exact am_ckM_ok am_base_ok am_cal_all am_k199
  | 200, hM => cases hM; exact am_ckM_ok am_base_ok am_cal_all am_k200
  | x + 201, hM => exact absurd hM (by show ¬ am_Ms[x + 201]? = some M; rw [List.getElem?_eq_none (by show am_Ms.length ≤ x + 201; rw [show am_Ms.length = 201 from rfl]; omega)]; exact fun h => by cases h)
end
section
/-! the equations of the methods' stretches, by program -/
-- 0: java/util/Arrays.fill([II)V
theorem am_s0_0 (B : Nat) (sa : Nat → Nat) (cl : am_F) (f : Nat) (a0 : Nat) (x1 : Int32) (σ : am_S) : am_go B sa am_dfl cl am_r0 (f + 1) 0 [(0, .ref a0), (1, .int x1)] [] σ =
  (am_alen σ a0).bind fun v1 => am_go B sa am_dfl cl am_r0 f 5 [(0, .ref a0), (1, .int x1), (2, .int 0), (3, .int v1)] [] σ := am_go_succ.trans rfl
theorem am_s0_5 (B : Nat) (sa : Nat → Nat) (cl : am_F) (f : Nat) (a0 : Nat) (x1 : Int32) (x2 : Int32) (x3 : Int32) (σ : am_S) : am_go B sa am_dfl cl am_r0 (f + 1) 5 [(0, .ref a0), (1, .int x1), (2, .int x2), (3, .int x3)] [] σ =
  if am_cond .ge x2 x3 = true then (some (none, σ)) else ((am_iast B σ a0 x2 x1).bind fun g1 => am_go B sa am_dfl cl am_r0 f 5 [(0, .ref a0), (1, .int x1), (2, .int (x2 + 1)), (3, .int x3)] [] g1) := am_go_succ.trans rfl
-- 1: java/util/Arrays.copyOf([II)[I
theorem am_s1_0 (B : Nat) (sa : Nat → Nat) (cl : am_F) (f : Nat) (a0 : Nat) (x1 : Int32) (σ : am_S) : am_go B sa am_dfl cl am_r1 (f + 1) 0 [(0, .ref a0), (1, .int x1)] [] σ =
  (am_alen σ a0).bind fun v1 => if am_cond .ne x1 v1 = true then (if (x1 : Int32) < 0 ∨ (100000 : Int32) < x1 then none else (am_alen (am_nwa σ (Int32.toNatClampNeg x1)) a0).bind fun v2 => (am_cpy B (am_nwa σ (Int32.toNatClampNeg x1)) a0 0 σ.1 0 (if x1 < v2 then x1 else v2)).bind fun g3 => some (some (.ref σ.1), g3)) else (none) := am_go_succ.trans rfl
-- 2: TraceJudge$Types.<init>()V
theorem am_s2_0 (B : Nat) (sa : Nat → Nat) (cl : am_F) (f : Nat) (a0 : Nat) (σ : am_S) : am_go B sa am_dfl cl am_r2 (f + 1) 0 [(0, .ref a0)] [] σ =
  if (64 : Int32) < 0 ∨ (100000 : Int32) < 64 then none else (am_put B (am_nwa σ (Int32.toNatClampNeg 64)) a0 7 0 (.ref σ.1)).bind fun g1 => if (64 : Int32) < 0 ∨ (100000 : Int32) < 64 then none else (am_put B (am_nwa g1 (Int32.toNatClampNeg 64)) a0 7 1 (.ref g1.1)).bind fun g2 => if (64 : Int32) < 0 ∨ (100000 : Int32) < 64 then none else (am_put B (am_nwa g2 (Int32.toNatClampNeg 64)) a0 7 2 (.ref g2.1)).bind fun g3 => if (64 : Int32) < 0 ∨ (100000 : Int32) < 64 then none else (am_put B (am_nwa g3 (Int32.toNatClampNeg 64)) a0 7 3 (.ref g3.1)).bind fun g4 => if (64 : Int32) < 0 ∨ (100000 : Int32) < 64 then none else (am_put B (am_nwa g4 (Int32.toNatClampNeg 64)) a0 7 4 (.ref g4.1)).bind fun g5 => if (64 : Int32) < 0 ∨ (100000 : Int32) < 64 then none else (am_put B (am_nwa g5 (Int32.toNatClampNeg 64)) a0 7 5 (.ref g5.1)).bind fun g6 => if (64 : Int32) < 0 ∨ (100000 : Int32) < 64 then none else (am_put B (am_nwa g6 (Int32.toNatClampNeg 64)) a0 7 6 (.ref g6.1)).bind fun g7 => if (1024 : Int32) < 0 ∨ (100000 : Int32) < 1024 then none else (am_put B (am_nwa g7 (Int32.toNatClampNeg 1024)) a0 7 7 (.ref g7.1)).bind fun g8 => (am_put B g8 a0 7 8 (.int 0)).bind fun g9 => (am_getr g9 a0 7 7).bind fun p10 => am_v (cl 0 [.ref p10, .int (-1)] g9) fun g11 => (am_obj g11 a0 7).bind fun _ => am_i (cl 3 [.ref a0, .int (-1), .int (-1), .int (-1)] g11) fun v12 g12 => (am_obj g12 a0 7).bind fun _ => am_i (cl 3 [.ref a0, .int 0, .int (-1), .int (-1)] g12) fun v13 g13 => some (none, g13) := am_go_succ.trans rfl
-- 3: TraceJudge$Types.make(III)I
theorem am_s3_0 (B : Nat) (sa : Nat → Nat) (cl : am_F) (f : Nat) (a0 : Nat) (x1 : Int32) (x2 : Int32) (x3 : Int32) (σ : am_S) : am_go B sa am_dfl cl am_r3 (f + 1) 0 [(0, .ref a0), (1, .int x1), (2, .int x2), (3, .int x3)] [] σ =
  if am_cond .eq x2 (-2) = true then (some (some (.int (-2)), σ)) else (if am_cond .ne x3 (-2) = true then (am_i (cl 6 [.int x1, .int x2, .int x3] σ) fun v1 g1 => (am_obj g1 a0 7).bind fun _ => am_i (cl 4 [.ref a0, .int v1, .int x1, .int x2, .int x3] g1) fun v2 g2 => if am_cond .eq v2 (-1) = true then ((am_obj g2 a0 7).bind fun _ => am_i (cl 5 [.ref a0, .int v1, .int x1, .int x2, .int x3] g2) fun v3 g3 => some (some (.int v3), g3)) else (some (some (.int v2), g2))) else (some (some (.int (-2)), σ))) := am_go_succ.trans rfl
-- 4: TraceJudge$Types.find(IIII)I
theorem am_s4_0 (B : Nat) (sa : Nat → Nat) (cl : am_F) (f : Nat) (a0 : Nat) (x1 : Int32) (x2 : Int32) (x3 : Int32) (x4 : Int32) (σ : am_S) : am_go B sa am_dfl cl am_r4 (f + 1) 0 [(0, .ref a0), (1, .int x1), (2, .int x2), (3, .int x3), (4, .int x4)] [] σ =
  (am_getr σ a0 7 7).bind fun p1 => (am_iald σ p1 x1).bind fun v2 => am_go B sa am_dfl cl am_r4 f 11 [(0, .ref a0), (2, .int x2), (3, .int x3), (4, .int x4), (5, .int v2), (6, .int 0)] [] σ := am_go_succ.trans rfl
theorem am_s4_11 (B : Nat) (sa : Nat → Nat) (cl : am_F) (f : Nat) (a0 : Nat) (x2 : Int32) (x3 : Int32) (x4 : Int32) (x5 : Int32) (x6 : Int32) (σ : am_S) : am_go B sa am_dfl cl am_r4 (f + 1) 11 [(0, .ref a0), (2, .int x2), (3, .int x3), (4, .int x4), (5, .int x5), (6, .int x6)] [] σ =
  if am_cond .eq x5 (-1) = true then (some (some (.int (-1)), σ)) else ((am_geti σ a0 7 8).bind fun v1 => if am_cond .ge x6 v1 = true then (some (some (.int (-1)), σ)) else ((am_getr σ a0 7 0).bind fun p2 => (am_iald σ p2 x5).bind fun v3 => if am_cond .ne v3 x2 = true then ((am_getr σ a0 7 5).bind fun p4 => (am_iald σ p4 x5).bind fun v5 => am_go B sa am_dfl cl am_r4 f 11 [(0, .ref a0), (2, .int x2), (3, .int x3), (4, .int x4), (5, .int v5), (6, .int (x6 + 1))] [] σ) else ((am_getr σ a0 7 1).bind fun p6 => (am_iald σ p6 x5).bind fun v7 => if am_cond .ne v7 x3 = true then ((am_getr σ a0 7 5).bind fun p8 => (am_iald σ p8 x5).bind fun v9 => am_go B sa am_dfl cl am_r4 f 11 [(0, .ref a0), (2, .int x2), (3, .int x3), (4, .int x4), (5, .int v9), (6, .int (x6 + 1))] [] σ) else ((am_getr σ a0 7 2).bind fun p10 => (am_iald σ p10 x5).bind fun v11 => if am_cond .ne v11 x4 = true then ((am_getr σ a0 7 5).bind fun p12 => (am_iald σ p12 x5).bind fun v13 => am_go B sa am_dfl cl am_r4 f 11 [(0, .ref a0), (2, .int x2), (3, .int x3), (4, .int x4), (5, .int v13), (6, .int (x6 + 1))] [] σ) else (some (some (.int x5), σ)))))) := am_go_succ.trans rfl
-- 5: TraceJudge$Types.append(IIII)I
theorem am_s5_0 (B : Nat) (sa : Nat → Nat) (cl : am_F) (f : Nat) (a0 : Nat) (x1 : Int32) (x2 : Int32) (x3 : Int32) (x4 : Int32) (σ : am_S) : am_go B sa am_dfl cl am_r5 (f + 1) 0 [(0, .ref a0), (1, .int x1), (2, .int x2), (3, .int x3), (4, .int x4)] [] σ =
  (am_getr σ a0 7 3).bind fun p1 => am_i (cl 119 [.ref p1, .int x3] σ) fun v2 g2 => (am_getr g2 a0 7 3).bind fun p3 => am_i (cl 119 [.ref p3, .int x4] g2) fun v4 g4 => (am_getr g4 a0 7 4).bind fun p5 => am_i (cl 119 [.ref p5, .int x3] g4) fun v6 g6 => (am_getr g6 a0 7 4).bind fun p7 => am_i (cl 119 [.ref p7, .int x4] g6) fun v8 g8 => if am_cond .gt ((1 + v2) + v4) 200 = true then (some (some (.int (-2)), g8)) else (if am_cond .gt (1 + (if v6 < v8 then v8 else v6)) 24 = true then (some (some (.int (-2)), g8)) else ((am_geti g8 a0 7 8).bind fun v9 => if am_cond .lt v9 8000 = true then ((am_geti g8 a0 7 8).bind fun v10 => (am_getr g8 a0 7 0).bind fun p11 => (am_alen g8 p11).bind fun v12 => if am_cond .ne v10 v12 = true then (am_go B sa am_dfl cl am_r5 f 185 [(0, .ref a0), (1, .int x1), (2, .int x2), (3, .int x3), (4, .int x4), (5, .int ((1 + v2) + v4)), (6, .int (1 + (if v6 < v8 then v8 else v6)))] [] g8) else ((am_geti g8 a0 7 8).bind fun v13 => (am_getr g8 a0 7 0).bind fun p14 => am_p (cl 1 [.ref p14, .int (2 * v13)] g8) (fun p15 g15 => (am_put B g15 a0 7 0 (.ref p15)).bind fun g16 => (am_getr g16 a0 7 1).bind fun p17 => am_p (cl 1 [.ref p17, .int (2 * v13)] g16) (fun p18 g18 => (am_put B g18 a0 7 1 (.ref p18)).bind fun g19 => (am_getr g19 a0 7 2).bind fun p20 => am_p (cl 1 [.ref p20, .int (2 * v13)] g19) (fun p21 g21 => (am_put B g21 a0 7 2 (.ref p21)).bind fun g22 => (am_getr g22 a0 7 3).bind fun p23 => am_p (cl 1 [.ref p23, .int (2 * v13)] g22) (fun p24 g24 => (am_put B g24 a0 7 3 (.ref p24)).bind fun g25 => (am_getr g25 a0 7 4).bind fun p26 => am_p (cl 1 [.ref p26, .int (2 * v13)] g25) (fun p27 g27 => (am_put B g27 a0 7 4 (.ref p27)).bind fun g28 => (am_getr g28 a0 7 5).bind fun p29 => am_p (cl 1 [.ref p29, .int (2 * v13)] g28) (fun p30 g30 => (am_put B g30 a0 7 5 (.ref p30)).bind fun g31 => (am_getr g31 a0 7 6).bind fun p32 => am_p (cl 1 [.ref p32, .int (2 * v13)] g31) (fun p33 g33 => (am_put B g33 a0 7 6 (.ref p33)).bind fun g34 => am_go B sa am_dfl cl am_r5 f 185 [(0, .ref a0), (1, .int x1), (2, .int x2), (3, .int x3), (4, .int x4), (5, .int ((1 + v2) + v4)), (6, .int (1 + (if v6 < v8 then v8 else v6)))] [] g34) (fun g33 => none)) (fun g30 => none)) (fun g27 => none)) (fun g24 => none)) (fun g21 => none)) (fun g18 => none)) (fun g15 => none))) else (some (some (.int (-2)), g8)))) := am_go_succ.trans rfl
theorem am_s5_185 (B : Nat) (sa : Nat → Nat) (cl : am_F) (f : Nat) (a0 : Nat) (x1 : Int32) (x2 : Int32) (x3 : Int32) (x4 : Int32) (x5 : Int32) (x6 : Int32) (σ : am_S) : am_go B sa am_dfl cl am_r5 (f + 1) 185 [(0, .ref a0), (1, .int x1), (2, .int x2), (3, .int x3), (4, .int x4), (5, .int x5), (6, .int x6)] [] σ =
  (am_getr σ a0 7 0).bind fun p1 => (am_geti σ a0 7 8).bind fun v2 => (am_iast B σ p1 v2 x2).bind fun g3 => (am_getr g3 a0 7 1).bind fun p4 => (am_geti g3 a0 7 8).bind fun v5 => (am_iast B g3 p4 v5 x3).bind fun g6 => (am_getr g6 a0 7 2).bind fun p7 => (am_geti g6 a0 7 8).bind fun v8 => (am_iast B g6 p7 v8 x4).bind fun g9 => (am_getr g9 a0 7 3).bind fun p10 => (am_geti g9 a0 7 8).bind fun v11 => (am_iast B g9 p10 v11 x5).bind fun g12 => (am_getr g12 a0 7 4).bind fun p13 => (am_geti g12 a0 7 8).bind fun v14 => (am_iast B g12 p13 v14 x6).bind fun g15 => (am_getr g15 a0 7 5).bind fun p16 => (am_geti g15 a0 7 8).bind fun v17 => (am_getr g15 a0 7 7).bind fun p18 => (am_iald g15 p18 x1).bind fun v19 => (am_iast B g15 p16 v17 v19).bind fun g20 => (am_getr g20 a0 7 7).bind fun p21 => (am_geti g20 a0 7 8).bind fun v22 => (am_iast B g20 p21 x1 v22).bind fun g23 => (am_geti g23 a0 7 8).bind fun v24 => (am_put B g23 a0 7 8 (.int (v24 + 1))).bind fun g25 => (am_geti g25 a0 7 8).bind fun v26 => some (some (.int (v26 - 1)), g25) := am_go_succ.trans rfl
-- 6: TraceJudge$Types.bucketOf(III)I
theorem am_s6_0 (B : Nat) (sa : Nat → Nat) (cl : am_F) (f : Nat) (x0 : Int32) (x1 : Int32) (x2 : Int32) (σ : am_S) : am_go B sa am_dfl cl am_r6 (f + 1) 0 [(0, .int x0), (1, .int x1), (2, .int x2)] [] σ =
  some (some (.int (Int32.toUInt32 (((((x0 * 2654435761) + (x1 * 2246822507)) + (x2 * 3266489909)) ^^^ (Int32.toUInt32 (((x0 * 2654435761) + (x1 * 2246822507)) + (x2 * 3266489909)) >>> (Int32.toUInt32 15 &&& Int32.toUInt32 31)).toInt32) * 668265263) >>> (Int32.toUInt32 22 &&& Int32.toUInt32 31)).toInt32), σ) := am_go_succ.trans rfl
-- 7: TraceJudge$Types.shorten(I)V
theorem am_s7_0 (B : Nat) (sa : Nat → Nat) (cl : am_F) (f : Nat) (a0 : Nat) (x1 : Int32) (σ : am_S) : am_go B sa am_dfl cl am_r7 (f + 1) 0 [(0, .ref a0), (1, .int x1)] [] σ =
  (am_geti σ a0 7 8).bind fun v1 => am_go B sa am_dfl cl am_r7 f 7 [(0, .ref a0), (1, .int x1), (2, .int (v1 - 1))] [] σ := am_go_succ.trans rfl
theorem am_s7_7 (B : Nat) (sa : Nat → Nat) (cl : am_F) (f : Nat) (a0 : Nat) (x1 : Int32) (x2 : Int32) (σ : am_S) : am_go B sa am_dfl cl am_r7 (f + 1) 7 [(0, .ref a0), (1, .int x1), (2, .int x2)] [] σ =
  if am_cond .lt x2 x1 = true then ((am_geti σ a0 7 8).bind fun v1 => (am_put B σ a0 7 8 (.int (if x1 < v1 then x1 else v1))).bind fun g2 => some (none, g2)) else ((am_getr σ a0 7 7).bind fun p3 => (am_getr σ a0 7 0).bind fun p4 => (am_iald σ p4 x2).bind fun v5 => (am_getr σ a0 7 1).bind fun p6 => (am_iald σ p6 x2).bind fun v7 => (am_getr σ a0 7 2).bind fun p8 => (am_iald σ p8 x2).bind fun v9 => am_i (cl 6 [.int v5, .int v7, .int v9] σ) fun v10 g10 => (am_getr g10 a0 7 5).bind fun p11 => (am_iald g10 p11 x2).bind fun v12 => (am_iast B g10 p3 v10 v12).bind fun g13 => am_go B sa am_dfl cl am_r7 f 7 [(0, .ref a0), (1, .int x1), (2, .int (x2 + (-1)))] [] g13) := am_go_succ.trans rfl
end
