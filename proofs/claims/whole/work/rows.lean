section
-- ===== PART A: goes FIRST, ahead of the names: the tables' words, and 'selects' of the private methods out of them =====
/-- a private method of a class that the tables say can be made, by its rows of tables_1 -/
def lw_okq (q : MethodName × Nat) : Prop := (q.1.cls ≠ "java/lang/invoke/MethodHandle" ∧ q.1.cls ≠ "java/lang/invoke/VarHandle") ∧ Cond.instantiable q.1.cls q.2 ∈ tables_1 ∧ Cond.privateMethod q.1 ∈ tables_1 ∧ Cond.instanceMethod q.1 ∈ tables_1
theorem lw_p0 : lw_okq (⟨"TraceJudge$Types", "find", "(IIII)I"⟩, 9) := ⟨⟨by decide +kernel, by decide +kernel⟩, List.mem_of_getElem? (i := 29) (by decide +kernel), List.mem_of_getElem? (i := 49) (by decide +kernel), List.mem_of_getElem? (i := 50) (by decide +kernel)⟩
theorem lw_p1 : lw_okq (⟨"TraceJudge$Types", "append", "(IIII)I"⟩, 9) := ⟨⟨by decide +kernel, by decide +kernel⟩, List.mem_of_getElem? (i := 29) (by decide +kernel), List.mem_of_getElem? (i := 53) (by decide +kernel), List.mem_of_getElem? (i := 54) (by decide +kernel)⟩
theorem lw_p2 : lw_okq (⟨"TraceJudge", "entryLength", "(I)I"⟩, 10) := ⟨⟨by decide +kernel, by decide +kernel⟩, List.mem_of_getElem? (i := 21) (by decide +kernel), List.mem_of_getElem? (i := 379) (by decide +kernel), List.mem_of_getElem? (i := 380) (by decide +kernel)⟩
theorem lw_p3 : lw_okq (⟨"TraceJudge", "accepts", "(I)Z"⟩, 10) := ⟨⟨by decide +kernel, by decide +kernel⟩, List.mem_of_getElem? (i := 21) (by decide +kernel), List.mem_of_getElem? (i := 389) (by decide +kernel), List.mem_of_getElem? (i := 390) (by decide +kernel)⟩
theorem lw_p4 : lw_okq (⟨"TraceJudge$Entries", "addType", "(I)Z"⟩, 14) := ⟨⟨by decide +kernel, by decide +kernel⟩, List.mem_of_getElem? (i := 146) (by decide +kernel), List.mem_of_getElem? (i := 402) (by decide +kernel), List.mem_of_getElem? (i := 403) (by decide +kernel)⟩
theorem lw_p5 : lw_okq (⟨"TraceJudge$Entries", "addTerm", "(IIII)Z"⟩, 14) := ⟨⟨by decide +kernel, by decide +kernel⟩, List.mem_of_getElem? (i := 146) (by decide +kernel), List.mem_of_getElem? (i := 419) (by decide +kernel), List.mem_of_getElem? (i := 420) (by decide +kernel)⟩
theorem lw_p6 : lw_okq (⟨"TraceJudge$Entries", "growTerms", "()V"⟩, 14) := ⟨⟨by decide +kernel, by decide +kernel⟩, List.mem_of_getElem? (i := 146) (by decide +kernel), List.mem_of_getElem? (i := 425) (by decide +kernel), List.mem_of_getElem? (i := 426) (by decide +kernel)⟩
theorem lw_p7 : lw_okq (⟨"TraceJudge$Entries", "looseOf", "(III)I"⟩, 14) := ⟨⟨by decide +kernel, by decide +kernel⟩, List.mem_of_getElem? (i := 146) (by decide +kernel), List.mem_of_getElem? (i := 429) (by decide +kernel), List.mem_of_getElem? (i := 430) (by decide +kernel)⟩
theorem lw_p8 : lw_okq (⟨"TraceJudge$Types", "matches", "(III)Z"⟩, 9) := ⟨⟨by decide +kernel, by decide +kernel⟩, List.mem_of_getElem? (i := 29) (by decide +kernel), List.mem_of_getElem? (i := 449) (by decide +kernel), List.mem_of_getElem? (i := 450) (by decide +kernel)⟩
theorem lw_p9 : lw_okq (⟨"TraceJudge$Entries", "bindsType", "(II)Z"⟩, 14) := ⟨⟨by decide +kernel, by decide +kernel⟩, List.mem_of_getElem? (i := 146) (by decide +kernel), List.mem_of_getElem? (i := 469) (by decide +kernel), List.mem_of_getElem? (i := 470) (by decide +kernel)⟩
theorem lw_p10 : lw_okq (⟨"TraceJudge$Rows", "isLow", "(II)Z"⟩, 8) := ⟨⟨by decide +kernel, by decide +kernel⟩, List.mem_of_getElem? (i := 202) (by decide +kernel), List.mem_of_getElem? (i := 508) (by decide +kernel), List.mem_of_getElem? (i := 509) (by decide +kernel)⟩
theorem lw_p11 : lw_okq (⟨"TraceJudge$Steps", "equationOf", "(I)LTraceJudge$Equation;"⟩, 5) := ⟨⟨by decide +kernel, by decide +kernel⟩, List.mem_of_getElem? (i := 286) (by decide +kernel), List.mem_of_getElem? (i := 517) (by decide +kernel), List.mem_of_getElem? (i := 518) (by decide +kernel)⟩
theorem lw_p12 : lw_okq (⟨"TraceJudge$Steps", "copyWith", "(III)V"⟩, 5) := ⟨⟨by decide +kernel, by decide +kernel⟩, List.mem_of_getElem? (i := 286) (by decide +kernel), List.mem_of_getElem? (i := 632) (by decide +kernel), List.mem_of_getElem? (i := 633) (by decide +kernel)⟩
theorem lw_p13 : lw_okq (⟨"TraceJudge$Types", "imageOf", "(I)I"⟩, 9) := ⟨⟨by decide +kernel, by decide +kernel⟩, List.mem_of_getElem? (i := 29) (by decide +kernel), List.mem_of_getElem? (i := 667) (by decide +kernel), List.mem_of_getElem? (i := 668) (by decide +kernel)⟩
theorem lw_p14 : lw_okq (⟨"TraceJudge$Steps", "hasVariablesOf", "(III)Z"⟩, 5) := ⟨⟨by decide +kernel, by decide +kernel⟩, List.mem_of_getElem? (i := 286) (by decide +kernel), List.mem_of_getElem? (i := 687) (by decide +kernel), List.mem_of_getElem? (i := 688) (by decide +kernel)⟩
theorem lw_p15 : lw_okq (⟨"TraceJudge$Steps", "newType", "(II)I"⟩, 5) := ⟨⟨by decide +kernel, by decide +kernel⟩, List.mem_of_getElem? (i := 286) (by decide +kernel), List.mem_of_getElem? (i := 710) (by decide +kernel), List.mem_of_getElem? (i := 711) (by decide +kernel)⟩
def lw_privs_1 : List (MethodName × Nat) := [(⟨"TraceJudge$Types", "find", "(IIII)I"⟩, 9), (⟨"TraceJudge$Types", "append", "(IIII)I"⟩, 9), (⟨"TraceJudge", "entryLength", "(I)I"⟩, 10), (⟨"TraceJudge", "accepts", "(I)Z"⟩, 10), (⟨"TraceJudge$Entries", "addType", "(I)Z"⟩, 14), (⟨"TraceJudge$Entries", "addTerm", "(IIII)Z"⟩, 14), (⟨"TraceJudge$Entries", "growTerms", "()V"⟩, 14), (⟨"TraceJudge$Entries", "looseOf", "(III)I"⟩, 14), (⟨"TraceJudge$Types", "matches", "(III)Z"⟩, 9), (⟨"TraceJudge$Entries", "bindsType", "(II)Z"⟩, 14), (⟨"TraceJudge$Rows", "isLow", "(II)Z"⟩, 8), (⟨"TraceJudge$Steps", "equationOf", "(I)LTraceJudge$Equation;"⟩, 5), (⟨"TraceJudge$Steps", "copyWith", "(III)V"⟩, 5), (⟨"TraceJudge$Types", "imageOf", "(I)I"⟩, 9), (⟨"TraceJudge$Steps", "hasVariablesOf", "(III)Z"⟩, 5), (⟨"TraceJudge$Steps", "newType", "(II)I"⟩, 5)]
theorem lw_r1 : ∀ q ∈ lw_privs_1, lw_okq q := List.forall_mem_cons.mpr ⟨lw_p0, List.forall_mem_cons.mpr ⟨lw_p1, List.forall_mem_cons.mpr ⟨lw_p2, List.forall_mem_cons.mpr ⟨lw_p3, List.forall_mem_cons.mpr ⟨lw_p4, List.forall_mem_cons.mpr ⟨lw_p5, List.forall_mem_cons.mpr ⟨lw_p6, List.forall_mem_cons.mpr ⟨lw_p7, List.forall_mem_cons.mpr ⟨lw_p8, List.forall_mem_cons.mpr ⟨lw_p9, List.forall_mem_cons.mpr ⟨lw_p10, List.forall_mem_cons.mpr ⟨lw_p11, List.forall_mem_cons.mpr ⟨lw_p12, List.forall_mem_cons.mpr ⟨lw_p13, List.forall_mem_cons.mpr ⟨lw_p14, List.forall_mem_cons.mpr ⟨lw_p15, fun _ h => absurd h List.not_mem_nil⟩⟩⟩⟩⟩⟩⟩⟩⟩⟩⟩⟩⟩⟩⟩⟩
theorem lw_p16 : lw_okq (⟨"TraceJudge$Axioms", "endOf", "(I)I"⟩, 5) := ⟨⟨by decide +kernel, by decide +kernel⟩, List.mem_of_getElem? (i := 308) (by decide +kernel), List.mem_of_getElem? (i := 745) (by decide +kernel), List.mem_of_getElem? (i := 746) (by decide +kernel)⟩
theorem lw_p17 : lw_okq (⟨"TraceJudge$Axioms", "typeAt", "(I)I"⟩, 5) := ⟨⟨by decide +kernel, by decide +kernel⟩, List.mem_of_getElem? (i := 308) (by decide +kernel), List.mem_of_getElem? (i := 749) (by decide +kernel), List.mem_of_getElem? (i := 750) (by decide +kernel)⟩
theorem lw_p18 : lw_okq (⟨"TraceJudge$Axioms", "writeBinding", "(III)V"⟩, 5) := ⟨⟨by decide +kernel, by decide +kernel⟩, List.mem_of_getElem? (i := 308) (by decide +kernel), List.mem_of_getElem? (i := 756) (by decide +kernel), List.mem_of_getElem? (i := 757) (by decide +kernel)⟩
theorem lw_p19 : lw_okq (⟨"TraceJudge$Axioms", "writeAnd", "(III)V"⟩, 5) := ⟨⟨by decide +kernel, by decide +kernel⟩, List.mem_of_getElem? (i := 308) (by decide +kernel), List.mem_of_getElem? (i := 761) (by decide +kernel), List.mem_of_getElem? (i := 762) (by decide +kernel)⟩
theorem lw_p20 : lw_okq (⟨"TraceJudge$Axioms", "writeAll", "(III)V"⟩, 5) := ⟨⟨by decide +kernel, by decide +kernel⟩, List.mem_of_getElem? (i := 308) (by decide +kernel), List.mem_of_getElem? (i := 766) (by decide +kernel), List.mem_of_getElem? (i := 767) (by decide +kernel)⟩
theorem lw_p21 : lw_okq (⟨"TraceJudge$Axioms", "writeExists", "(III)V"⟩, 5) := ⟨⟨by decide +kernel, by decide +kernel⟩, List.mem_of_getElem? (i := 308) (by decide +kernel), List.mem_of_getElem? (i := 770) (by decide +kernel), List.mem_of_getElem? (i := 771) (by decide +kernel)⟩
theorem lw_p22 : lw_okq (⟨"TraceJudge$Axioms", "writeName", "(II)V"⟩, 5) := ⟨⟨by decide +kernel, by decide +kernel⟩, List.mem_of_getElem? (i := 308) (by decide +kernel), List.mem_of_getElem? (i := 774) (by decide +kernel), List.mem_of_getElem? (i := 775) (by decide +kernel)⟩
theorem lw_p23 : lw_okq (⟨"java/lang/Throwable", "fillInStackTrace", "(I)Ljava/lang/Throwable;"⟩, 6) := ⟨⟨by decide +kernel, by decide +kernel⟩, List.mem_of_getElem? (i := 853) (by decide +kernel), List.mem_of_getElem? (i := 851) (by decide +kernel), List.mem_of_getElem? (i := 852) (by decide +kernel)⟩
theorem lw_p24 : lw_okq (⟨"TraceJudgeModel", "typeOf", "(III)I"⟩, 53) := ⟨⟨by decide +kernel, by decide +kernel⟩, List.mem_of_getElem? (i := 975) (by decide +kernel), List.mem_of_getElem? (i := 983) (by decide +kernel), List.mem_of_getElem? (i := 984) (by decide +kernel)⟩
theorem lw_p25 : lw_okq (⟨"TraceJudgeModel", "need", "(Z)Z"⟩, 53) := ⟨⟨by decide +kernel, by decide +kernel⟩, List.mem_of_getElem? (i := 975) (by decide +kernel), List.mem_of_getElem? (i := 990) (by decide +kernel), List.mem_of_getElem? (i := 991) (by decide +kernel)⟩
theorem lw_p26 : lw_okq (⟨"TraceJudgeModel", "truths", "()I"⟩, 53) := ⟨⟨by decide +kernel, by decide +kernel⟩, List.mem_of_getElem? (i := 975) (by decide +kernel), List.mem_of_getElem? (i := 994) (by decide +kernel), List.mem_of_getElem? (i := 995) (by decide +kernel)⟩
theorem lw_p27 : lw_okq (⟨"TraceJudgeModel", "functions", "(II)I"⟩, 53) := ⟨⟨by decide +kernel, by decide +kernel⟩, List.mem_of_getElem? (i := 975) (by decide +kernel), List.mem_of_getElem? (i := 998) (by decide +kernel), List.mem_of_getElem? (i := 999) (by decide +kernel)⟩
theorem lw_p28 : lw_okq (⟨"TraceJudgeModel", "next", "()I"⟩, 53) := ⟨⟨by decide +kernel, by decide +kernel⟩, List.mem_of_getElem? (i := 975) (by decide +kernel), List.mem_of_getElem? (i := 1174) (by decide +kernel), List.mem_of_getElem? (i := 1175) (by decide +kernel)⟩
theorem lw_p29 : lw_okq (⟨"TraceJudgeModel", "readType", "(I)V"⟩, 53) := ⟨⟨by decide +kernel, by decide +kernel⟩, List.mem_of_getElem? (i := 975) (by decide +kernel), List.mem_of_getElem? (i := 1178) (by decide +kernel), List.mem_of_getElem? (i := 1179) (by decide +kernel)⟩
theorem lw_p30 : lw_okq (⟨"TraceJudgeModel", "keepType", "(I)V"⟩, 53) := ⟨⟨by decide +kernel, by decide +kernel⟩, List.mem_of_getElem? (i := 975) (by decide +kernel), List.mem_of_getElem? (i := 1186) (by decide +kernel), List.mem_of_getElem? (i := 1187) (by decide +kernel)⟩
theorem lw_p31 : lw_okq (⟨"TraceJudgeModel", "nextType", "()I"⟩, 53) := ⟨⟨by decide +kernel, by decide +kernel⟩, List.mem_of_getElem? (i := 975) (by decide +kernel), List.mem_of_getElem? (i := 1190) (by decide +kernel), List.mem_of_getElem? (i := 1191) (by decide +kernel)⟩
def lw_privs_2 : List (MethodName × Nat) := [(⟨"TraceJudge$Axioms", "endOf", "(I)I"⟩, 5), (⟨"TraceJudge$Axioms", "typeAt", "(I)I"⟩, 5), (⟨"TraceJudge$Axioms", "writeBinding", "(III)V"⟩, 5), (⟨"TraceJudge$Axioms", "writeAnd", "(III)V"⟩, 5), (⟨"TraceJudge$Axioms", "writeAll", "(III)V"⟩, 5), (⟨"TraceJudge$Axioms", "writeExists", "(III)V"⟩, 5), (⟨"TraceJudge$Axioms", "writeName", "(II)V"⟩, 5), (⟨"java/lang/Throwable", "fillInStackTrace", "(I)Ljava/lang/Throwable;"⟩, 6), (⟨"TraceJudgeModel", "typeOf", "(III)I"⟩, 53), (⟨"TraceJudgeModel", "need", "(Z)Z"⟩, 53), (⟨"TraceJudgeModel", "truths", "()I"⟩, 53), (⟨"TraceJudgeModel", "functions", "(II)I"⟩, 53), (⟨"TraceJudgeModel", "next", "()I"⟩, 53), (⟨"TraceJudgeModel", "readType", "(I)V"⟩, 53), (⟨"TraceJudgeModel", "keepType", "(I)V"⟩, 53), (⟨"TraceJudgeModel", "nextType", "()I"⟩, 53)]
theorem lw_r2 : ∀ q ∈ lw_privs_2, lw_okq q := List.forall_mem_cons.mpr ⟨lw_p16, List.forall_mem_cons.mpr ⟨lw_p17, List.forall_mem_cons.mpr ⟨lw_p18, List.forall_mem_cons.mpr ⟨lw_p19, List.forall_mem_cons.mpr ⟨lw_p20, List.forall_mem_cons.mpr ⟨lw_p21, List.forall_mem_cons.mpr ⟨lw_p22, List.forall_mem_cons.mpr ⟨lw_p23, List.forall_mem_cons.mpr ⟨lw_p24, List.forall_mem_cons.mpr ⟨lw_p25, List.forall_mem_cons.mpr ⟨lw_p26, List.forall_mem_cons.mpr ⟨lw_p27, List.forall_mem_cons.mpr ⟨lw_p28, List.forall_mem_cons.mpr ⟨lw_p29, List.forall_mem_cons.mpr ⟨lw_p30, List.forall_mem_cons.mpr ⟨lw_p31, fun _ h => absurd h List.not_mem_nil⟩⟩⟩⟩⟩⟩⟩⟩⟩⟩⟩⟩⟩⟩⟩⟩
theorem lw_p32 : lw_okq (⟨"TraceJudgeModel", "readTerm", "(I)V"⟩, 53) := ⟨⟨by decide +kernel, by decide +kernel⟩, List.mem_of_getElem? (i := 975) (by decide +kernel), List.mem_of_getElem? (i := 1194) (by decide +kernel), List.mem_of_getElem? (i := 1195) (by decide +kernel)⟩
theorem lw_p33 : lw_okq (⟨"TraceJudgeModel", "nextTerm", "()I"⟩, 53) := ⟨⟨by decide +kernel, by decide +kernel⟩, List.mem_of_getElem? (i := 975) (by decide +kernel), List.mem_of_getElem? (i := 1198) (by decide +kernel), List.mem_of_getElem? (i := 1199) (by decide +kernel)⟩
theorem lw_p34 : lw_okq (⟨"TraceJudgeModel", "canApply", "(II)Z"⟩, 53) := ⟨⟨by decide +kernel, by decide +kernel⟩, List.mem_of_getElem? (i := 975) (by decide +kernel), List.mem_of_getElem? (i := 1202) (by decide +kernel), List.mem_of_getElem? (i := 1203) (by decide +kernel)⟩
theorem lw_p35 : lw_okq (⟨"TraceJudgeModel", "apply", "(II)I"⟩, 53) := ⟨⟨by decide +kernel, by decide +kernel⟩, List.mem_of_getElem? (i := 975) (by decide +kernel), List.mem_of_getElem? (i := 1206) (by decide +kernel), List.mem_of_getElem? (i := 1207) (by decide +kernel)⟩
theorem lw_p36 : lw_okq (⟨"TraceJudgeModel", "node", "(IIII)I"⟩, 53) := ⟨⟨by decide +kernel, by decide +kernel⟩, List.mem_of_getElem? (i := 975) (by decide +kernel), List.mem_of_getElem? (i := 1210) (by decide +kernel), List.mem_of_getElem? (i := 1211) (by decide +kernel)⟩
theorem lw_p37 : lw_okq (⟨"TraceJudgeModel", "keepTerm", "(I)V"⟩, 53) := ⟨⟨by decide +kernel, by decide +kernel⟩, List.mem_of_getElem? (i := 975) (by decide +kernel), List.mem_of_getElem? (i := 1214) (by decide +kernel), List.mem_of_getElem? (i := 1215) (by decide +kernel)⟩
theorem lw_p38 : lw_okq (⟨"TraceJudgeModel", "isOf", "(III)Z"⟩, 53) := ⟨⟨by decide +kernel, by decide +kernel⟩, List.mem_of_getElem? (i := 975) (by decide +kernel), List.mem_of_getElem? (i := 1218) (by decide +kernel), List.mem_of_getElem? (i := 1219) (by decide +kernel)⟩
theorem lw_p39 : lw_okq (⟨"TraceJudgeModel", "abstracted", "(II)I"⟩, 53) := ⟨⟨by decide +kernel, by decide +kernel⟩, List.mem_of_getElem? (i := 975) (by decide +kernel), List.mem_of_getElem? (i := 1222) (by decide +kernel), List.mem_of_getElem? (i := 1223) (by decide +kernel)⟩
theorem lw_p40 : lw_okq (⟨"TraceJudgeModel", "fits", "(II)Z"⟩, 53) := ⟨⟨by decide +kernel, by decide +kernel⟩, List.mem_of_getElem? (i := 975) (by decide +kernel), List.mem_of_getElem? (i := 1226) (by decide +kernel), List.mem_of_getElem? (i := 1227) (by decide +kernel)⟩
theorem lw_p41 : lw_okq (⟨"TraceJudgeModel", "readStep", "(I)V"⟩, 53) := ⟨⟨by decide +kernel, by decide +kernel⟩, List.mem_of_getElem? (i := 975) (by decide +kernel), List.mem_of_getElem? (i := 1230) (by decide +kernel), List.mem_of_getElem? (i := 1231) (by decide +kernel)⟩
theorem lw_p42 : lw_okq (⟨"TraceJudgeModel", "nextClosed", "()I"⟩, 53) := ⟨⟨by decide +kernel, by decide +kernel⟩, List.mem_of_getElem? (i := 975) (by decide +kernel), List.mem_of_getElem? (i := 1234) (by decide +kernel), List.mem_of_getElem? (i := 1235) (by decide +kernel)⟩
theorem lw_p43 : lw_okq (⟨"TraceJudgeModel", "stepOfTerm", "(II)V"⟩, 53) := ⟨⟨by decide +kernel, by decide +kernel⟩, List.mem_of_getElem? (i := 975) (by decide +kernel), List.mem_of_getElem? (i := 1238) (by decide +kernel), List.mem_of_getElem? (i := 1239) (by decide +kernel)⟩
theorem lw_p44 : lw_okq (⟨"TraceJudgeModel", "open", "()V"⟩, 53) := ⟨⟨by decide +kernel, by decide +kernel⟩, List.mem_of_getElem? (i := 975) (by decide +kernel), List.mem_of_getElem? (i := 1242) (by decide +kernel), List.mem_of_getElem? (i := 1243) (by decide +kernel)⟩
theorem lw_p45 : lw_okq (⟨"TraceJudgeModel", "equation", "(II)I"⟩, 53) := ⟨⟨by decide +kernel, by decide +kernel⟩, List.mem_of_getElem? (i := 975) (by decide +kernel), List.mem_of_getElem? (i := 1246) (by decide +kernel), List.mem_of_getElem? (i := 1247) (by decide +kernel)⟩
theorem lw_p46 : lw_okq (⟨"TraceJudgeModel", "constant", "(II)I"⟩, 53) := ⟨⟨by decide +kernel, by decide +kernel⟩, List.mem_of_getElem? (i := 975) (by decide +kernel), List.mem_of_getElem? (i := 1250) (by decide +kernel), List.mem_of_getElem? (i := 1251) (by decide +kernel)⟩
theorem lw_p47 : lw_okq (⟨"TraceJudgeModel", "close", "(II)V"⟩, 53) := ⟨⟨by decide +kernel, by decide +kernel⟩, List.mem_of_getElem? (i := 975) (by decide +kernel), List.mem_of_getElem? (i := 1254) (by decide +kernel), List.mem_of_getElem? (i := 1255) (by decide +kernel)⟩
def lw_privs_3 : List (MethodName × Nat) := [(⟨"TraceJudgeModel", "readTerm", "(I)V"⟩, 53), (⟨"TraceJudgeModel", "nextTerm", "()I"⟩, 53), (⟨"TraceJudgeModel", "canApply", "(II)Z"⟩, 53), (⟨"TraceJudgeModel", "apply", "(II)I"⟩, 53), (⟨"TraceJudgeModel", "node", "(IIII)I"⟩, 53), (⟨"TraceJudgeModel", "keepTerm", "(I)V"⟩, 53), (⟨"TraceJudgeModel", "isOf", "(III)Z"⟩, 53), (⟨"TraceJudgeModel", "abstracted", "(II)I"⟩, 53), (⟨"TraceJudgeModel", "fits", "(II)Z"⟩, 53), (⟨"TraceJudgeModel", "readStep", "(I)V"⟩, 53), (⟨"TraceJudgeModel", "nextClosed", "()I"⟩, 53), (⟨"TraceJudgeModel", "stepOfTerm", "(II)V"⟩, 53), (⟨"TraceJudgeModel", "open", "()V"⟩, 53), (⟨"TraceJudgeModel", "equation", "(II)I"⟩, 53), (⟨"TraceJudgeModel", "constant", "(II)I"⟩, 53), (⟨"TraceJudgeModel", "close", "(II)V"⟩, 53)]
theorem lw_r3 : ∀ q ∈ lw_privs_3, lw_okq q := List.forall_mem_cons.mpr ⟨lw_p32, List.forall_mem_cons.mpr ⟨lw_p33, List.forall_mem_cons.mpr ⟨lw_p34, List.forall_mem_cons.mpr ⟨lw_p35, List.forall_mem_cons.mpr ⟨lw_p36, List.forall_mem_cons.mpr ⟨lw_p37, List.forall_mem_cons.mpr ⟨lw_p38, List.forall_mem_cons.mpr ⟨lw_p39, List.forall_mem_cons.mpr ⟨lw_p40, List.forall_mem_cons.mpr ⟨lw_p41, List.forall_mem_cons.mpr ⟨lw_p42, List.forall_mem_cons.mpr ⟨lw_p43, List.forall_mem_cons.mpr ⟨lw_p44, List.forall_mem_cons.mpr ⟨lw_p45, List.forall_mem_cons.mpr ⟨lw_p46, List.forall_mem_cons.mpr ⟨lw_p47, fun _ h => absurd h List.not_mem_nil⟩⟩⟩⟩⟩⟩⟩⟩⟩⟩⟩⟩⟩⟩⟩⟩
theorem lw_p48 : lw_okq (⟨"TraceJudgeModel", "noteState", "(I)V"⟩, 53) := ⟨⟨by decide +kernel, by decide +kernel⟩, List.mem_of_getElem? (i := 975) (by decide +kernel), List.mem_of_getElem? (i := 1258) (by decide +kernel), List.mem_of_getElem? (i := 1259) (by decide +kernel)⟩
theorem lw_p49 : lw_okq (⟨"TraceJudgeModel", "opened", "(III)I"⟩, 53) := ⟨⟨by decide +kernel, by decide +kernel⟩, List.mem_of_getElem? (i := 975) (by decide +kernel), List.mem_of_getElem? (i := 1262) (by decide +kernel), List.mem_of_getElem? (i := 1263) (by decide +kernel)⟩
theorem lw_p50 : lw_okq (⟨"TraceJudgeModel", "add", "(I)V"⟩, 53) := ⟨⟨by decide +kernel, by decide +kernel⟩, List.mem_of_getElem? (i := 975) (by decide +kernel), List.mem_of_getElem? (i := 1266) (by decide +kernel), List.mem_of_getElem? (i := 1267) (by decide +kernel)⟩
theorem lw_p51 : lw_okq (⟨"TraceJudgeModel", "define", "(I)V"⟩, 53) := ⟨⟨by decide +kernel, by decide +kernel⟩, List.mem_of_getElem? (i := 975) (by decide +kernel), List.mem_of_getElem? (i := 1270) (by decide +kernel), List.mem_of_getElem? (i := 1271) (by decide +kernel)⟩
theorem lw_p52 : lw_okq (⟨"TraceJudgeModel", "noteAll", "(I)Z"⟩, 53) := ⟨⟨by decide +kernel, by decide +kernel⟩, List.mem_of_getElem? (i := 975) (by decide +kernel), List.mem_of_getElem? (i := 1274) (by decide +kernel), List.mem_of_getElem? (i := 1275) (by decide +kernel)⟩
theorem lw_p53 : lw_okq (⟨"TraceJudgeModel", "noteType", "(I)V"⟩, 53) := ⟨⟨by decide +kernel, by decide +kernel⟩, List.mem_of_getElem? (i := 975) (by decide +kernel), List.mem_of_getElem? (i := 1278) (by decide +kernel), List.mem_of_getElem? (i := 1279) (by decide +kernel)⟩
theorem lw_p54 : lw_okq (⟨"TraceJudgeModel", "nextSequent", "()I"⟩, 53) := ⟨⟨by decide +kernel, by decide +kernel⟩, List.mem_of_getElem? (i := 975) (by decide +kernel), List.mem_of_getElem? (i := 1282) (by decide +kernel), List.mem_of_getElem? (i := 1283) (by decide +kernel)⟩
theorem lw_p55 : lw_okq (⟨"TraceJudgeModel", "stepOfTwo", "(III)V"⟩, 53) := ⟨⟨by decide +kernel, by decide +kernel⟩, List.mem_of_getElem? (i := 975) (by decide +kernel), List.mem_of_getElem? (i := 1286) (by decide +kernel), List.mem_of_getElem? (i := 1287) (by decide +kernel)⟩
theorem lw_p56 : lw_okq (⟨"TraceJudgeModel", "addAll", "(II)V"⟩, 53) := ⟨⟨by decide +kernel, by decide +kernel⟩, List.mem_of_getElem? (i := 975) (by decide +kernel), List.mem_of_getElem? (i := 1290) (by decide +kernel), List.mem_of_getElem? (i := 1291) (by decide +kernel)⟩
theorem lw_p57 : lw_okq (⟨"TraceJudgeModel", "isEquation", "(I)Z"⟩, 53) := ⟨⟨by decide +kernel, by decide +kernel⟩, List.mem_of_getElem? (i := 975) (by decide +kernel), List.mem_of_getElem? (i := 1294) (by decide +kernel), List.mem_of_getElem? (i := 1295) (by decide +kernel)⟩
theorem lw_p58 : lw_okq (⟨"TraceJudgeModel", "joined", "(II)V"⟩, 53) := ⟨⟨by decide +kernel, by decide +kernel⟩, List.mem_of_getElem? (i := 975) (by decide +kernel), List.mem_of_getElem? (i := 1298) (by decide +kernel), List.mem_of_getElem? (i := 1299) (by decide +kernel)⟩
theorem lw_p59 : lw_okq (⟨"TraceJudgeModel", "leftOf", "(I)I"⟩, 53) := ⟨⟨by decide +kernel, by decide +kernel⟩, List.mem_of_getElem? (i := 975) (by decide +kernel), List.mem_of_getElem? (i := 1302) (by decide +kernel), List.mem_of_getElem? (i := 1303) (by decide +kernel)⟩
theorem lw_p60 : lw_okq (⟨"TraceJudgeModel", "stepAbstract", "(II)V"⟩, 53) := ⟨⟨by decide +kernel, by decide +kernel⟩, List.mem_of_getElem? (i := 975) (by decide +kernel), List.mem_of_getElem? (i := 1306) (by decide +kernel), List.mem_of_getElem? (i := 1307) (by decide +kernel)⟩
theorem lw_p61 : lw_okq (⟨"TraceJudgeModel", "occurs", "(II)Z"⟩, 53) := ⟨⟨by decide +kernel, by decide +kernel⟩, List.mem_of_getElem? (i := 975) (by decide +kernel), List.mem_of_getElem? (i := 1310) (by decide +kernel), List.mem_of_getElem? (i := 1311) (by decide +kernel)⟩
theorem lw_p62 : lw_okq (⟨"TraceJudgeModel", "abstraction", "(II)I"⟩, 53) := ⟨⟨by decide +kernel, by decide +kernel⟩, List.mem_of_getElem? (i := 975) (by decide +kernel), List.mem_of_getElem? (i := 1314) (by decide +kernel), List.mem_of_getElem? (i := 1315) (by decide +kernel)⟩
theorem lw_p63 : lw_okq (⟨"TraceJudgeModel", "bind", "(III)I"⟩, 53) := ⟨⟨by decide +kernel, by decide +kernel⟩, List.mem_of_getElem? (i := 975) (by decide +kernel), List.mem_of_getElem? (i := 1318) (by decide +kernel), List.mem_of_getElem? (i := 1319) (by decide +kernel)⟩
def lw_privs_4 : List (MethodName × Nat) := [(⟨"TraceJudgeModel", "noteState", "(I)V"⟩, 53), (⟨"TraceJudgeModel", "opened", "(III)I"⟩, 53), (⟨"TraceJudgeModel", "add", "(I)V"⟩, 53), (⟨"TraceJudgeModel", "define", "(I)V"⟩, 53), (⟨"TraceJudgeModel", "noteAll", "(I)Z"⟩, 53), (⟨"TraceJudgeModel", "noteType", "(I)V"⟩, 53), (⟨"TraceJudgeModel", "nextSequent", "()I"⟩, 53), (⟨"TraceJudgeModel", "stepOfTwo", "(III)V"⟩, 53), (⟨"TraceJudgeModel", "addAll", "(II)V"⟩, 53), (⟨"TraceJudgeModel", "isEquation", "(I)Z"⟩, 53), (⟨"TraceJudgeModel", "joined", "(II)V"⟩, 53), (⟨"TraceJudgeModel", "leftOf", "(I)I"⟩, 53), (⟨"TraceJudgeModel", "stepAbstract", "(II)V"⟩, 53), (⟨"TraceJudgeModel", "occurs", "(II)Z"⟩, 53), (⟨"TraceJudgeModel", "abstraction", "(II)I"⟩, 53), (⟨"TraceJudgeModel", "bind", "(III)I"⟩, 53)]
theorem lw_r4 : ∀ q ∈ lw_privs_4, lw_okq q := List.forall_mem_cons.mpr ⟨lw_p48, List.forall_mem_cons.mpr ⟨lw_p49, List.forall_mem_cons.mpr ⟨lw_p50, List.forall_mem_cons.mpr ⟨lw_p51, List.forall_mem_cons.mpr ⟨lw_p52, List.forall_mem_cons.mpr ⟨lw_p53, List.forall_mem_cons.mpr ⟨lw_p54, List.forall_mem_cons.mpr ⟨lw_p55, List.forall_mem_cons.mpr ⟨lw_p56, List.forall_mem_cons.mpr ⟨lw_p57, List.forall_mem_cons.mpr ⟨lw_p58, List.forall_mem_cons.mpr ⟨lw_p59, List.forall_mem_cons.mpr ⟨lw_p60, List.forall_mem_cons.mpr ⟨lw_p61, List.forall_mem_cons.mpr ⟨lw_p62, List.forall_mem_cons.mpr ⟨lw_p63, fun _ h => absurd h List.not_mem_nil⟩⟩⟩⟩⟩⟩⟩⟩⟩⟩⟩⟩⟩⟩⟩⟩
theorem lw_p64 : lw_okq (⟨"TraceJudgeModel", "stepPut", "()V"⟩, 53) := ⟨⟨by decide +kernel, by decide +kernel⟩, List.mem_of_getElem? (i := 975) (by decide +kernel), List.mem_of_getElem? (i := 1322) (by decide +kernel), List.mem_of_getElem? (i := 1323) (by decide +kernel)⟩
theorem lw_p65 : lw_okq (⟨"TraceJudgeModel", "replaced", "(III)I"⟩, 53) := ⟨⟨by decide +kernel, by decide +kernel⟩, List.mem_of_getElem? (i := 975) (by decide +kernel), List.mem_of_getElem? (i := 1326) (by decide +kernel), List.mem_of_getElem? (i := 1327) (by decide +kernel)⟩
theorem lw_p66 : lw_okq (⟨"TraceJudgeModel", "stepRetype", "()V"⟩, 53) := ⟨⟨by decide +kernel, by decide +kernel⟩, List.mem_of_getElem? (i := 975) (by decide +kernel), List.mem_of_getElem? (i := 1330) (by decide +kernel), List.mem_of_getElem? (i := 1331) (by decide +kernel)⟩
theorem lw_p67 : lw_okq (⟨"TraceJudgeModel", "variableOf", "(I)I"⟩, 53) := ⟨⟨by decide +kernel, by decide +kernel⟩, List.mem_of_getElem? (i := 975) (by decide +kernel), List.mem_of_getElem? (i := 1334) (by decide +kernel), List.mem_of_getElem? (i := 1335) (by decide +kernel)⟩
theorem lw_p68 : lw_okq (⟨"TraceJudgeModel", "retyped", "(I)I"⟩, 53) := ⟨⟨by decide +kernel, by decide +kernel⟩, List.mem_of_getElem? (i := 975) (by decide +kernel), List.mem_of_getElem? (i := 1338) (by decide +kernel), List.mem_of_getElem? (i := 1339) (by decide +kernel)⟩
theorem lw_p69 : lw_okq (⟨"TraceJudgeModel", "exchanged", "(I)I"⟩, 53) := ⟨⟨by decide +kernel, by decide +kernel⟩, List.mem_of_getElem? (i := 975) (by decide +kernel), List.mem_of_getElem? (i := 1342) (by decide +kernel), List.mem_of_getElem? (i := 1343) (by decide +kernel)⟩
theorem lw_p70 : lw_okq (⟨"TraceJudgeModel", "stepType", "(I)V"⟩, 53) := ⟨⟨by decide +kernel, by decide +kernel⟩, List.mem_of_getElem? (i := 975) (by decide +kernel), List.mem_of_getElem? (i := 1346) (by decide +kernel), List.mem_of_getElem? (i := 1347) (by decide +kernel)⟩
theorem lw_p71 : lw_okq (⟨"TraceJudgeModel", "free", "(II)I"⟩, 53) := ⟨⟨by decide +kernel, by decide +kernel⟩, List.mem_of_getElem? (i := 975) (by decide +kernel), List.mem_of_getElem? (i := 1350) (by decide +kernel), List.mem_of_getElem? (i := 1351) (by decide +kernel)⟩
theorem lw_p72 : lw_okq (⟨"TraceJudgeModel", "stepAxiom", "(I)V"⟩, 53) := ⟨⟨by decide +kernel, by decide +kernel⟩, List.mem_of_getElem? (i := 975) (by decide +kernel), List.mem_of_getElem? (i := 1354) (by decide +kernel), List.mem_of_getElem? (i := 1355) (by decide +kernel)⟩
theorem lw_p73 : lw_okq (⟨"TraceJudgeModel", "extensionality", "()I"⟩, 53) := ⟨⟨by decide +kernel, by decide +kernel⟩, List.mem_of_getElem? (i := 975) (by decide +kernel), List.mem_of_getElem? (i := 1358) (by decide +kernel), List.mem_of_getElem? (i := 1359) (by decide +kernel)⟩
theorem lw_p74 : lw_okq (⟨"TraceJudgeModel", "chosen", "()I"⟩, 53) := ⟨⟨by decide +kernel, by decide +kernel⟩, List.mem_of_getElem? (i := 975) (by decide +kernel), List.mem_of_getElem? (i := 1362) (by decide +kernel), List.mem_of_getElem? (i := 1363) (by decide +kernel)⟩
theorem lw_p75 : lw_okq (⟨"TraceJudgeModel", "choiceOf", "(I)I"⟩, 53) := ⟨⟨by decide +kernel, by decide +kernel⟩, List.mem_of_getElem? (i := 975) (by decide +kernel), List.mem_of_getElem? (i := 1366) (by decide +kernel), List.mem_of_getElem? (i := 1367) (by decide +kernel)⟩
theorem lw_p76 : lw_okq (⟨"TraceJudgeModel", "implies", "(II)I"⟩, 53) := ⟨⟨by decide +kernel, by decide +kernel⟩, List.mem_of_getElem? (i := 975) (by decide +kernel), List.mem_of_getElem? (i := 1370) (by decide +kernel), List.mem_of_getElem? (i := 1371) (by decide +kernel)⟩
theorem lw_p77 : lw_okq (⟨"TraceJudgeModel", "and", "(II)I"⟩, 53) := ⟨⟨by decide +kernel, by decide +kernel⟩, List.mem_of_getElem? (i := 975) (by decide +kernel), List.mem_of_getElem? (i := 1374) (by decide +kernel), List.mem_of_getElem? (i := 1375) (by decide +kernel)⟩
theorem lw_p78 : lw_okq (⟨"TraceJudgeModel", "truth", "()I"⟩, 53) := ⟨⟨by decide +kernel, by decide +kernel⟩, List.mem_of_getElem? (i := 975) (by decide +kernel), List.mem_of_getElem? (i := 1378) (by decide +kernel), List.mem_of_getElem? (i := 1379) (by decide +kernel)⟩
theorem lw_p79 : lw_okq (⟨"TraceJudgeModel", "named", "(II)I"⟩, 53) := ⟨⟨by decide +kernel, by decide +kernel⟩, List.mem_of_getElem? (i := 975) (by decide +kernel), List.mem_of_getElem? (i := 1382) (by decide +kernel), List.mem_of_getElem? (i := 1383) (by decide +kernel)⟩
def lw_privs_5 : List (MethodName × Nat) := [(⟨"TraceJudgeModel", "stepPut", "()V"⟩, 53), (⟨"TraceJudgeModel", "replaced", "(III)I"⟩, 53), (⟨"TraceJudgeModel", "stepRetype", "()V"⟩, 53), (⟨"TraceJudgeModel", "variableOf", "(I)I"⟩, 53), (⟨"TraceJudgeModel", "retyped", "(I)I"⟩, 53), (⟨"TraceJudgeModel", "exchanged", "(I)I"⟩, 53), (⟨"TraceJudgeModel", "stepType", "(I)V"⟩, 53), (⟨"TraceJudgeModel", "free", "(II)I"⟩, 53), (⟨"TraceJudgeModel", "stepAxiom", "(I)V"⟩, 53), (⟨"TraceJudgeModel", "extensionality", "()I"⟩, 53), (⟨"TraceJudgeModel", "chosen", "()I"⟩, 53), (⟨"TraceJudgeModel", "choiceOf", "(I)I"⟩, 53), (⟨"TraceJudgeModel", "implies", "(II)I"⟩, 53), (⟨"TraceJudgeModel", "and", "(II)I"⟩, 53), (⟨"TraceJudgeModel", "truth", "()I"⟩, 53), (⟨"TraceJudgeModel", "named", "(II)I"⟩, 53)]
theorem lw_r5 : ∀ q ∈ lw_privs_5, lw_okq q := List.forall_mem_cons.mpr ⟨lw_p64, List.forall_mem_cons.mpr ⟨lw_p65, List.forall_mem_cons.mpr ⟨lw_p66, List.forall_mem_cons.mpr ⟨lw_p67, List.forall_mem_cons.mpr ⟨lw_p68, List.forall_mem_cons.mpr ⟨lw_p69, List.forall_mem_cons.mpr ⟨lw_p70, List.forall_mem_cons.mpr ⟨lw_p71, List.forall_mem_cons.mpr ⟨lw_p72, List.forall_mem_cons.mpr ⟨lw_p73, List.forall_mem_cons.mpr ⟨lw_p74, List.forall_mem_cons.mpr ⟨lw_p75, List.forall_mem_cons.mpr ⟨lw_p76, List.forall_mem_cons.mpr ⟨lw_p77, List.forall_mem_cons.mpr ⟨lw_p78, List.forall_mem_cons.mpr ⟨lw_p79, fun _ h => absurd h List.not_mem_nil⟩⟩⟩⟩⟩⟩⟩⟩⟩⟩⟩⟩⟩⟩⟩⟩
theorem lw_p80 : lw_okq (⟨"TraceJudgeModel", "infinite", "()I"⟩, 53) := ⟨⟨by decide +kernel, by decide +kernel⟩, List.mem_of_getElem? (i := 975) (by decide +kernel), List.mem_of_getElem? (i := 1386) (by decide +kernel), List.mem_of_getElem? (i := 1387) (by decide +kernel)⟩
theorem lw_p81 : lw_okq (⟨"TraceJudgeModel", "all", "(II)I"⟩, 53) := ⟨⟨by decide +kernel, by decide +kernel⟩, List.mem_of_getElem? (i := 975) (by decide +kernel), List.mem_of_getElem? (i := 1390) (by decide +kernel), List.mem_of_getElem? (i := 1391) (by decide +kernel)⟩
theorem lw_p82 : lw_okq (⟨"TraceJudgeModel", "not", "(I)I"⟩, 53) := ⟨⟨by decide +kernel, by decide +kernel⟩, List.mem_of_getElem? (i := 975) (by decide +kernel), List.mem_of_getElem? (i := 1394) (by decide +kernel), List.mem_of_getElem? (i := 1395) (by decide +kernel)⟩
theorem lw_p83 : lw_okq (⟨"TraceJudgeModel", "some", "(II)I"⟩, 53) := ⟨⟨by decide +kernel, by decide +kernel⟩, List.mem_of_getElem? (i := 975) (by decide +kernel), List.mem_of_getElem? (i := 1398) (by decide +kernel), List.mem_of_getElem? (i := 1399) (by decide +kernel)⟩
theorem lw_p84 : lw_okq (⟨"TraceJudgeModel", "cutNodes", "(I)V"⟩, 53) := ⟨⟨by decide +kernel, by decide +kernel⟩, List.mem_of_getElem? (i := 975) (by decide +kernel), List.mem_of_getElem? (i := 1402) (by decide +kernel), List.mem_of_getElem? (i := 1403) (by decide +kernel)⟩
theorem lw_p85 : lw_okq (⟨"TraceJudgeModel", "cutTypes", "(I)V"⟩, 53) := ⟨⟨by decide +kernel, by decide +kernel⟩, List.mem_of_getElem? (i := 975) (by decide +kernel), List.mem_of_getElem? (i := 1406) (by decide +kernel), List.mem_of_getElem? (i := 1407) (by decide +kernel)⟩
theorem lw_p86 : lw_okq (⟨"TraceJudgeModel", "look", "(III)I"⟩, 53) := ⟨⟨by decide +kernel, by decide +kernel⟩, List.mem_of_getElem? (i := 975) (by decide +kernel), List.mem_of_getElem? (i := 1426) (by decide +kernel), List.mem_of_getElem? (i := 1427) (by decide +kernel)⟩
theorem lw_p87 : lw_okq (⟨"TraceJudgeModel", "partAt", "(II)I"⟩, 53) := ⟨⟨by decide +kernel, by decide +kernel⟩, List.mem_of_getElem? (i := 975) (by decide +kernel), List.mem_of_getElem? (i := 1430) (by decide +kernel), List.mem_of_getElem? (i := 1431) (by decide +kernel)⟩
theorem lw_p88 : lw_okq (⟨"TraceJudgeModel", "canCut", "(I)Z"⟩, 53) := ⟨⟨by decide +kernel, by decide +kernel⟩, List.mem_of_getElem? (i := 975) (by decide +kernel), List.mem_of_getElem? (i := 1442) (by decide +kernel), List.mem_of_getElem? (i := 1443) (by decide +kernel)⟩
theorem lw_p89 : lw_okq (⟨"TraceJudgeModel", "cutTo", "(I)V"⟩, 53) := ⟨⟨by decide +kernel, by decide +kernel⟩, List.mem_of_getElem? (i := 975) (by decide +kernel), List.mem_of_getElem? (i := 1446) (by decide +kernel), List.mem_of_getElem? (i := 1447) (by decide +kernel)⟩
theorem lw_p90 : lw_okq (⟨"TraceJudgeModel", "mark", "(III)V"⟩, 53) := ⟨⟨by decide +kernel, by decide +kernel⟩, List.mem_of_getElem? (i := 975) (by decide +kernel), List.mem_of_getElem? (i := 1454) (by decide +kernel), List.mem_of_getElem? (i := 1455) (by decide +kernel)⟩
def lw_privs_6 : List (MethodName × Nat) := [(⟨"TraceJudgeModel", "infinite", "()I"⟩, 53), (⟨"TraceJudgeModel", "all", "(II)I"⟩, 53), (⟨"TraceJudgeModel", "not", "(I)I"⟩, 53), (⟨"TraceJudgeModel", "some", "(II)I"⟩, 53), (⟨"TraceJudgeModel", "cutNodes", "(I)V"⟩, 53), (⟨"TraceJudgeModel", "cutTypes", "(I)V"⟩, 53), (⟨"TraceJudgeModel", "look", "(III)I"⟩, 53), (⟨"TraceJudgeModel", "partAt", "(II)I"⟩, 53), (⟨"TraceJudgeModel", "canCut", "(I)Z"⟩, 53), (⟨"TraceJudgeModel", "cutTo", "(I)V"⟩, 53), (⟨"TraceJudgeModel", "mark", "(III)V"⟩, 53)]
theorem lw_r6 : ∀ q ∈ lw_privs_6, lw_okq q := List.forall_mem_cons.mpr ⟨lw_p80, List.forall_mem_cons.mpr ⟨lw_p81, List.forall_mem_cons.mpr ⟨lw_p82, List.forall_mem_cons.mpr ⟨lw_p83, List.forall_mem_cons.mpr ⟨lw_p84, List.forall_mem_cons.mpr ⟨lw_p85, List.forall_mem_cons.mpr ⟨lw_p86, List.forall_mem_cons.mpr ⟨lw_p87, List.forall_mem_cons.mpr ⟨lw_p88, List.forall_mem_cons.mpr ⟨lw_p89, List.forall_mem_cons.mpr ⟨lw_p90, fun _ h => absurd h List.not_mem_nil⟩⟩⟩⟩⟩⟩⟩⟩⟩⟩⟩
def lw_privs : List (MethodName × Nat) := lw_privs_1 ++ (lw_privs_2 ++ (lw_privs_3 ++ (lw_privs_4 ++ (lw_privs_5 ++ (lw_privs_6)))))
def lw_tbl : List Cond := k2_sels lw_privs ++ tables_1
theorem lw_privs_ok : ∀ q ∈ lw_privs, lw_okq q := by
  show ∀ q ∈ lw_privs_1 ++ (lw_privs_2 ++ (lw_privs_3 ++ (lw_privs_4 ++ (lw_privs_5 ++ (lw_privs_6))))), lw_okq q
  exact List.forall_mem_append.mpr ⟨lw_r1, List.forall_mem_append.mpr ⟨lw_r2, List.forall_mem_append.mpr ⟨lw_r3, List.forall_mem_append.mpr ⟨lw_r4, List.forall_mem_append.mpr ⟨lw_r5, lw_r6⟩⟩⟩⟩⟩
end
section
/-! names, by program out of the printed names of the task -/
def RX0 : String := "TraceJudge$Axioms"
def TX0 : u_T := fun k => match k with
  | 0 => ("TraceJudge$Axioms", "types", "LTraceJudge$Types;", true)
  | 1 => ("TraceJudge$Axioms", "rows", "LTraceJudge$Rows;", true)
  | 2 => ("TraceJudge$Axioms", "formula", "[I", false)
  | 3 => ("TraceJudge$Axioms", "typeOf", "[I", true)
  | _ => ("TraceJudge$Axioms", "boundAt", "[I", true)
def tyX0 : Nat → FieldType := fun k => match k with
  | 0 => .object "TraceJudge$Types"
  | 1 => .object "TraceJudge$Rows"
  | 2 => .array .int
  | 3 => .array .int
  | _ => .array .int
abbrev wsX00 : List Cond := u_ws RX0 TX0 5
theorem nmX0 : ∀ a, a < 5 → ∀ b, b < 5 → a ≠ b → (TX0 a).2.1 ≠ (TX0 b).2.1 := by decide +kernel
theorem tyX0_ok : ∀ k, k < 5 → parseFieldDescriptor (TX0 k).2.2.1 = some (tyX0 k) := by decide +kernel
abbrev cX0_init : ByteArray := prog_2_method_1_code
def yX0_init : MethodName := ⟨RX0, "<init>", "(LTraceJudge$Types;LTraceJudge$Rows;)V"⟩
abbrev cX0_choose : ByteArray := prog_2_method_2_code
def yX0_choose : MethodName := ⟨RX0, "choose", "(I)Z"⟩
abbrev cX0_write : ByteArray := prog_2_method_3_code
def yX0_write : MethodName := ⟨RX0, "write", "(II)V"⟩
abbrev cX0_writeName : ByteArray := prog_2_method_4_code
def yX0_writeName : MethodName := ⟨RX0, "writeName", "(II)V"⟩
abbrev cX0_writeBinding : ByteArray := prog_2_method_5_code
def yX0_writeBinding : MethodName := ⟨RX0, "writeBinding", "(III)V"⟩
abbrev cX0_writeAll : ByteArray := prog_2_method_6_code
def yX0_writeAll : MethodName := ⟨RX0, "writeAll", "(III)V"⟩
abbrev cX0_writeExists : ByteArray := prog_2_method_7_code
def yX0_writeExists : MethodName := ⟨RX0, "writeExists", "(III)V"⟩
abbrev cX0_writeAnd : ByteArray := prog_2_method_8_code
def yX0_writeAnd : MethodName := ⟨RX0, "writeAnd", "(III)V"⟩
abbrev cX0_typeAt : ByteArray := prog_2_method_9_code
def yX0_typeAt : MethodName := ⟨RX0, "typeAt", "(I)I"⟩
abbrev cX0_endOf : ByteArray := prog_2_method_10_code
def yX0_endOf : MethodName := ⟨RX0, "endOf", "(I)I"⟩
def RX1 : String := "TraceJudge$Entries"
def TX1 : u_T := fun k => match k with
  | 0 => ("TraceJudge$Entries", "types", "LTraceJudge$Types;", true)
  | 1 => ("TraceJudge$Entries", "signature", "LTraceJudge$Signature;", true)
  | 2 => ("TraceJudge$Entries", "typeAt", "[I", false)
  | 3 => ("TraceJudge$Entries", "typeCount", "I", false)
  | 4 => ("TraceJudge$Entries", "code", "[I", false)
  | 5 => ("TraceJudge$Entries", "type", "[I", false)
  | 6 => ("TraceJudge$Entries", "left", "[I", false)
  | 7 => ("TraceJudge$Entries", "right", "[I", false)
  | 8 => ("TraceJudge$Entries", "symbols", "[I", false)
  | 9 => ("TraceJudge$Entries", "height", "[I", false)
  | 10 => ("TraceJudge$Entries", "loose", "[I", false)
  | 11 => ("TraceJudge$Entries", "termCount", "I", false)
  | 12 => ("TraceJudge$Entries", "path", "[I", true)
  | _ => ("TraceJudge$Entries", "binders", "[I", true)
def tyX1 : Nat → FieldType := fun k => match k with
  | 0 => .object "TraceJudge$Types"
  | 1 => .object "TraceJudge$Signature"
  | 2 => .array .int
  | 3 => .int
  | 4 => .array .int
  | 5 => .array .int
  | 6 => .array .int
  | 7 => .array .int
  | 8 => .array .int
  | 9 => .array .int
  | 10 => .array .int
  | 11 => .int
  | 12 => .array .int
  | _ => .array .int
abbrev wsX10 : List Cond := u_ws RX1 TX1 14
theorem nmX1 : ∀ a, a < 14 → ∀ b, b < 14 → a ≠ b → (TX1 a).2.1 ≠ (TX1 b).2.1 := by decide +kernel
theorem tyX1_ok : ∀ k, k < 14 → parseFieldDescriptor (TX1 k).2.2.1 = some (tyX1 k) := by decide +kernel
abbrev cX1_init : ByteArray := prog_3_method_1_code
def yX1_init : MethodName := ⟨RX1, "<init>", "(LTraceJudge$Types;LTraceJudge$Signature;)V"⟩
abbrev cX1_shorten : ByteArray := prog_3_method_2_code
def yX1_shorten : MethodName := ⟨RX1, "shorten", "(II)V"⟩
abbrev cX1_hasType : ByteArray := prog_3_method_3_code
def yX1_hasType : MethodName := ⟨RX1, "hasType", "(I)Z"⟩
abbrev cX1_hasTerm : ByteArray := prog_3_method_4_code
def yX1_hasTerm : MethodName := ⟨RX1, "hasTerm", "(I)Z"⟩
abbrev cX1_isClosed : ByteArray := prog_3_method_5_code
def yX1_isClosed : MethodName := ⟨RX1, "isClosed", "(I)Z"⟩
abbrev cX1_isFree : ByteArray := prog_3_method_6_code
def yX1_isFree : MethodName := ⟨RX1, "isFree", "(I)Z"⟩
abbrev cX1_typeVariable : ByteArray := prog_3_method_7_code
def yX1_typeVariable : MethodName := ⟨RX1, "typeVariable", "(I)Z"⟩
abbrev cX1_typeOf : ByteArray := prog_3_method_8_code
def yX1_typeOf : MethodName := ⟨RX1, "typeOf", "(III)Z"⟩
abbrev cX1_freeVariable : ByteArray := prog_3_method_9_code
def yX1_freeVariable : MethodName := ⟨RX1, "freeVariable", "(II)Z"⟩
abbrev cX1_constant : ByteArray := prog_3_method_10_code
def yX1_constant : MethodName := ⟨RX1, "constant", "(II)Z"⟩
abbrev cX1_application : ByteArray := prog_3_method_11_code
def yX1_application : MethodName := ⟨RX1, "application", "(II)Z"⟩
abbrev cX1_abstraction : ByteArray := prog_3_method_12_code
def yX1_abstraction : MethodName := ⟨RX1, "abstraction", "(II)Z"⟩
abbrev cX1_boundVariable : ByteArray := prog_3_method_13_code
def yX1_boundVariable : MethodName := ⟨RX1, "boundVariable", "(II)Z"⟩
abbrev cX1_addType : ByteArray := prog_3_method_14_code
def yX1_addType : MethodName := ⟨RX1, "addType", "(I)Z"⟩
abbrev cX1_addTerm : ByteArray := prog_3_method_15_code
def yX1_addTerm : MethodName := ⟨RX1, "addTerm", "(IIII)Z"⟩
abbrev cX1_growTerms : ByteArray := prog_3_method_16_code
def yX1_growTerms : MethodName := ⟨RX1, "growTerms", "()V"⟩
abbrev cX1_looseOf : ByteArray := prog_3_method_17_code
def yX1_looseOf : MethodName := ⟨RX1, "looseOf", "(III)I"⟩
abbrev cX1_bindsType : ByteArray := prog_3_method_18_code
def yX1_bindsType : MethodName := ⟨RX1, "bindsType", "(II)Z"⟩
abbrev cX1_writeTo : ByteArray := prog_3_method_19_code
def yX1_writeTo : MethodName := ⟨RX1, "writeTo", "(LTraceJudge$Rows;I)V"⟩
def RX2 : String := "TraceJudge$Equation"
def TX2 : u_T := fun k => match k with
  | 0 => ("TraceJudge$Equation", "left", "I", true)
  | 1 => ("TraceJudge$Equation", "right", "I", true)
  | 2 => ("TraceJudge$Equation", "end", "I", true)
  | _ => ("TraceJudge$Equation", "type", "I", true)
def tyX2 : Nat → FieldType := fun k => match k with
  | 0 => .int
  | 1 => .int
  | 2 => .int
  | _ => .int
abbrev wsX20 : List Cond := u_ws RX2 TX2 4
theorem nmX2 : ∀ a, a < 4 → ∀ b, b < 4 → a ≠ b → (TX2 a).2.1 ≠ (TX2 b).2.1 := by decide +kernel
theorem tyX2_ok : ∀ k, k < 4 → parseFieldDescriptor (TX2 k).2.2.1 = some (tyX2 k) := by decide +kernel
abbrev cX2_init : ByteArray := prog_4_method_1_code
def yX2_init : MethodName := ⟨RX2, "<init>", "(IIII)V"⟩
def RX3 : String := "TraceJudge$Rows"
def TX3 : u_T := fun k => match k with
  | 0 => ("TraceJudge$Rows", "types", "LTraceJudge$Types;", true)
  | 1 => ("TraceJudge$Rows", "code", "[I", false)
  | 2 => ("TraceJudge$Rows", "type", "[I", false)
  | 3 => ("TraceJudge$Rows", "top", "I", false)
  | 4 => ("TraceJudge$Rows", "start", "[I", false)
  | 5 => ("TraceJudge$Rows", "count", "I", false)
  | 6 => ("TraceJudge$Rows", "bad", "Z", false)
  | _ => ("TraceJudge$Rows", "path", "[I", true)
def tyX3 : Nat → FieldType := fun k => match k with
  | 0 => .object "TraceJudge$Types"
  | 1 => .array .int
  | 2 => .array .int
  | 3 => .int
  | 4 => .array .int
  | 5 => .int
  | 6 => .boolean
  | _ => .array .int
abbrev wsX30 : List Cond := u_ws RX3 TX3 8
theorem nmX3 : ∀ a, a < 8 → ∀ b, b < 8 → a ≠ b → (TX3 a).2.1 ≠ (TX3 b).2.1 := by decide +kernel
theorem tyX3_ok : ∀ k, k < 8 → parseFieldDescriptor (TX3 k).2.2.1 = some (tyX3 k) := by decide +kernel
abbrev cX3_init : ByteArray := prog_5_method_1_code
def yX3_init : MethodName := ⟨RX3, "<init>", "(LTraceJudge$Types;)V"⟩
abbrev cX3_shorten : ByteArray := prog_5_method_2_code
def yX3_shorten : MethodName := ⟨RX3, "shorten", "(I)V"⟩
abbrev cX3_write : ByteArray := prog_5_method_3_code
def yX3_write : MethodName := ⟨RX3, "write", "(II)V"⟩
abbrev cX3_writeEquals : ByteArray := prog_5_method_4_code
def yX3_writeEquals : MethodName := ⟨RX3, "writeEquals", "(I)V"⟩
abbrev cX3_writeApplied : ByteArray := prog_5_method_5_code
def yX3_writeApplied : MethodName := ⟨RX3, "writeApplied", "(II)V"⟩
abbrev cX3_copy : ByteArray := prog_5_method_6_code
def yX3_copy : MethodName := ⟨RX3, "copy", "(II)V"⟩
abbrev cX3_copyRetyped : ByteArray := prog_5_method_7_code
def yX3_copyRetyped : MethodName := ⟨RX3, "copyRetyped", "(II)V"⟩
abbrev cX3_copyTrading : ByteArray := prog_5_method_8_code
def yX3_copyTrading : MethodName := ⟨RX3, "copyTrading", "(IIZII)V"⟩
abbrev cX3_drop : ByteArray := prog_5_method_9_code
def yX3_drop : MethodName := ⟨RX3, "drop", "()V"⟩
abbrev cX3_close : ByteArray := prog_5_method_10_code
def yX3_close : MethodName := ⟨RX3, "close", "()V"⟩
abbrev cX3_isLow : ByteArray := prog_5_method_11_code
def yX3_isLow : MethodName := ⟨RX3, "isLow", "(II)Z"⟩
abbrev cX3_same : ByteArray := prog_5_method_12_code
def yX3_same : MethodName := ⟨RX3, "same", "(IIII)Z"⟩
abbrev cX3_sameRows : ByteArray := prog_5_method_13_code
def yX3_sameRows : MethodName := ⟨RX3, "sameRows", "(II)Z"⟩
abbrev cX3_endOf : ByteArray := prog_5_method_14_code
def yX3_endOf : MethodName := ⟨RX3, "endOf", "(I)I"⟩
abbrev cX3_equationAt : ByteArray := prog_5_method_15_code
def yX3_equationAt : MethodName := ⟨RX3, "equationAt", "(I)LTraceJudge$Equation;"⟩
abbrev cX3_hasSymbol : ByteArray := prog_5_method_16_code
def yX3_hasSymbol : MethodName := ⟨RX3, "hasSymbol", "(IIII)Z"⟩
abbrev cX3_hasFree : ByteArray := prog_5_method_17_code
def yX3_hasFree : MethodName := ⟨RX3, "hasFree", "(II)Z"⟩
abbrev cX3_markTypes : ByteArray := prog_5_method_18_code
def yX3_markTypes : MethodName := ⟨RX3, "markTypes", "(II)V"⟩
def RX4 : String := "TraceJudge$Sequents"
def TX4 : u_T := fun k => match k with
  | 0 => ("TraceJudge$Sequents", "types", "LTraceJudge$Types;", true)
  | 1 => ("TraceJudge$Sequents", "entries", "LTraceJudge$Entries;", true)
  | 2 => ("TraceJudge$Sequents", "rows", "LTraceJudge$Rows;", true)
  | 3 => ("TraceJudge$Sequents", "count", "I", false)
  | 4 => ("TraceJudge$Sequents", "firm", "I", false)
  | 5 => ("TraceJudge$Sequents", "first", "[I", false)
  | 6 => ("TraceJudge$Sequents", "typesThen", "[I", false)
  | 7 => ("TraceJudge$Sequents", "entryTypesThen", "[I", false)
  | _ => ("TraceJudge$Sequents", "entryTermsThen", "[I", false)
def tyX4 : Nat → FieldType := fun k => match k with
  | 0 => .object "TraceJudge$Types"
  | 1 => .object "TraceJudge$Entries"
  | 2 => .object "TraceJudge$Rows"
  | 3 => .int
  | 4 => .int
  | 5 => .array .int
  | 6 => .array .int
  | 7 => .array .int
  | _ => .array .int
abbrev wsX40 : List Cond := u_ws RX4 TX4 9
theorem nmX4 : ∀ a, a < 9 → ∀ b, b < 9 → a ≠ b → (TX4 a).2.1 ≠ (TX4 b).2.1 := by decide +kernel
theorem tyX4_ok : ∀ k, k < 9 → parseFieldDescriptor (TX4 k).2.2.1 = some (tyX4 k) := by decide +kernel
abbrev cX4_init : ByteArray := prog_6_method_1_code
def yX4_init : MethodName := ⟨RX4, "<init>", "(LTraceJudge$Types;LTraceJudge$Entries;LTraceJudge$Rows;)V"⟩
abbrev cX4_has : ByteArray := prog_6_method_2_code
def yX4_has : MethodName := ⟨RX4, "has", "(I)Z"⟩
abbrev cX4_conclusionOf : ByteArray := prog_6_method_3_code
def yX4_conclusionOf : MethodName := ⟨RX4, "conclusionOf", "(I)I"⟩
abbrev cX4_hypothesesOf : ByteArray := prog_6_method_4_code
def yX4_hypothesesOf : MethodName := ⟨RX4, "hypothesesOf", "(I)I"⟩
abbrev cX4_placeOf : ByteArray := prog_6_method_5_code
def yX4_placeOf : MethodName := ⟨RX4, "placeOf", "(III)I"⟩
abbrev cX4_canEndAt : ByteArray := prog_6_method_6_code
def yX4_canEndAt : MethodName := ⟨RX4, "canEndAt", "(I)Z"⟩
abbrev cX4_shorten : ByteArray := prog_6_method_7_code
def yX4_shorten : MethodName := ⟨RX4, "shorten", "(I)V"⟩
abbrev cX4_join : ByteArray := prog_6_method_8_code
def yX4_join : MethodName := ⟨RX4, "join", "(II)V"⟩
abbrev cX4_addHypothesis : ByteArray := prog_6_method_9_code
def yX4_addHypothesis : MethodName := ⟨RX4, "addHypothesis", "()V"⟩
abbrev cX4_add : ByteArray := prog_6_method_10_code
def yX4_add : MethodName := ⟨RX4, "add", "()Z"⟩
abbrev cX4_addFirm : ByteArray := prog_6_method_11_code
def yX4_addFirm : MethodName := ⟨RX4, "addFirm", "()Z"⟩
def RX5 : String := "TraceJudge$Signature"
def TX5 : u_T := fun k => match k with
  | 0 => ("TraceJudge$Signature", "takes", "[I", true)
  | 1 => ("TraceJudge$Signature", "own", "[I", true)
  | 2 => ("TraceJudge$Signature", "constructors", "I", false)
  | 3 => ("TraceJudge$Signature", "constants", "I", false)
  | 4 => ("TraceJudge$Signature", "constructorsBefore", "I", false)
  | _ => ("TraceJudge$Signature", "constantsBefore", "I", false)
def tyX5 : Nat → FieldType := fun k => match k with
  | 0 => .array .int
  | 1 => .array .int
  | 2 => .int
  | 3 => .int
  | 4 => .int
  | _ => .int
abbrev wsX50 : List Cond := u_ws RX5 TX5 6
theorem nmX5 : ∀ a, a < 6 → ∀ b, b < 6 → a ≠ b → (TX5 a).2.1 ≠ (TX5 b).2.1 := by decide +kernel
theorem tyX5_ok : ∀ k, k < 6 → parseFieldDescriptor (TX5 k).2.2.1 = some (tyX5 k) := by decide +kernel
abbrev cX5_init : ByteArray := prog_7_method_1_code
def yX5_init : MethodName := ⟨RX5, "<init>", "(LTraceJudge$Types;)V"⟩
abbrev cX5_hasConstructor : ByteArray := prog_7_method_2_code
def yX5_hasConstructor : MethodName := ⟨RX5, "hasConstructor", "(I)Z"⟩
abbrev cX5_hasConstant : ByteArray := prog_7_method_3_code
def yX5_hasConstant : MethodName := ⟨RX5, "hasConstant", "(I)Z"⟩
abbrev cX5_addConstructor : ByteArray := prog_7_method_4_code
def yX5_addConstructor : MethodName := ⟨RX5, "addConstructor", "(I)I"⟩
abbrev cX5_addConstant : ByteArray := prog_7_method_5_code
def yX5_addConstant : MethodName := ⟨RX5, "addConstant", "(I)I"⟩
abbrev cX5_remember : ByteArray := prog_7_method_6_code
def yX5_remember : MethodName := ⟨RX5, "remember", "()V"⟩
abbrev cX5_undo : ByteArray := prog_7_method_7_code
def yX5_undo : MethodName := ⟨RX5, "undo", "()V"⟩
def RX6 : String := "TraceJudge$Steps"
def TX6 : u_T := fun k => match k with
  | 0 => ("TraceJudge$Steps", "types", "LTraceJudge$Types;", true)
  | 1 => ("TraceJudge$Steps", "signature", "LTraceJudge$Signature;", true)
  | 2 => ("TraceJudge$Steps", "entries", "LTraceJudge$Entries;", true)
  | 3 => ("TraceJudge$Steps", "rows", "LTraceJudge$Rows;", true)
  | _ => ("TraceJudge$Steps", "sequents", "LTraceJudge$Sequents;", true)
def tyX6 : Nat → FieldType := fun k => match k with
  | 0 => .object "TraceJudge$Types"
  | 1 => .object "TraceJudge$Signature"
  | 2 => .object "TraceJudge$Entries"
  | 3 => .object "TraceJudge$Rows"
  | _ => .object "TraceJudge$Sequents"
abbrev wsX60 : List Cond := u_ws RX6 TX6 5
theorem nmX6 : ∀ a, a < 5 → ∀ b, b < 5 → a ≠ b → (TX6 a).2.1 ≠ (TX6 b).2.1 := by decide +kernel
theorem tyX6_ok : ∀ k, k < 5 → parseFieldDescriptor (TX6 k).2.2.1 = some (tyX6 k) := by decide +kernel
abbrev cX6_init : ByteArray := prog_8_method_1_code
def yX6_init : MethodName := ⟨RX6, "<init>", "(LTraceJudge$Types;LTraceJudge$Signature;LTraceJudge$Entries;LTraceJudge$Rows;LTraceJudge$Sequents;)V"⟩
abbrev cX6_reflexive : ByteArray := prog_8_method_2_code
def yX6_reflexive : MethodName := ⟨RX6, "reflexive", "(I)Z"⟩
abbrev cX6_transitive : ByteArray := prog_8_method_3_code
def yX6_transitive : MethodName := ⟨RX6, "transitive", "(II)Z"⟩
abbrev cX6_congruent : ByteArray := prog_8_method_4_code
def yX6_congruent : MethodName := ⟨RX6, "congruent", "(II)Z"⟩
abbrev cX6_abstracted : ByteArray := prog_8_method_5_code
def yX6_abstracted : MethodName := ⟨RX6, "abstracted", "(II)Z"⟩
abbrev cX6_reduced : ByteArray := prog_8_method_6_code
def yX6_reduced : MethodName := ⟨RX6, "reduced", "(I)Z"⟩
abbrev cX6_assumed : ByteArray := prog_8_method_7_code
def yX6_assumed : MethodName := ⟨RX6, "assumed", "(I)Z"⟩
abbrev cX6_replaced : ByteArray := prog_8_method_8_code
def yX6_replaced : MethodName := ⟨RX6, "replaced", "(II)Z"⟩
abbrev cX6_equivalent : ByteArray := prog_8_method_9_code
def yX6_equivalent : MethodName := ⟨RX6, "equivalent", "(II)Z"⟩
abbrev cX6_termPutIn : ByteArray := prog_8_method_10_code
def yX6_termPutIn : MethodName := ⟨RX6, "termPutIn", "(III)Z"⟩
abbrev cX6_copyWith : ByteArray := prog_8_method_11_code
def yX6_copyWith : MethodName := ⟨RX6, "copyWith", "(III)V"⟩
abbrev cX6_typesPutIn : ByteArray := prog_8_method_12_code
def yX6_typesPutIn : MethodName := ⟨RX6, "typesPutIn", "(I[III)Z"⟩
abbrev cX6_isAmongPairs : ByteArray := prog_8_method_13_code
def yX6_isAmongPairs : MethodName := ⟨RX6, "isAmongPairs", "([IIII)Z"⟩
abbrev cX6_newConstant : ByteArray := prog_8_method_14_code
def yX6_newConstant : MethodName := ⟨RX6, "newConstant", "(I)Z"⟩
abbrev cX6_hasVariablesOf : ByteArray := prog_8_method_15_code
def yX6_hasVariablesOf : MethodName := ⟨RX6, "hasVariablesOf", "(III)Z"⟩
abbrev cX6_newConstructor : ByteArray := prog_8_method_16_code
def yX6_newConstructor : MethodName := ⟨RX6, "newConstructor", "(I)Z"⟩
abbrev cX6_newType : ByteArray := prog_8_method_17_code
def yX6_newType : MethodName := ⟨RX6, "newType", "(II)I"⟩
abbrev cX6_equationOf : ByteArray := prog_8_method_18_code
def yX6_equationOf : MethodName := ⟨RX6, "equationOf", "(I)LTraceJudge$Equation;"⟩
def RX7 : String := "TraceJudge$Types"
def TX7 : u_T := fun k => match k with
  | 0 => ("TraceJudge$Types", "code", "[I", false)
  | 1 => ("TraceJudge$Types", "left", "[I", false)
  | 2 => ("TraceJudge$Types", "right", "[I", false)
  | 3 => ("TraceJudge$Types", "symbols", "[I", false)
  | 4 => ("TraceJudge$Types", "height", "[I", false)
  | 5 => ("TraceJudge$Types", "next", "[I", false)
  | 6 => ("TraceJudge$Types", "image", "[I", false)
  | 7 => ("TraceJudge$Types", "heads", "[I", true)
  | _ => ("TraceJudge$Types", "count", "I", false)
def tyX7 : Nat → FieldType := fun k => match k with
  | 0 => .array .int
  | 1 => .array .int
  | 2 => .array .int
  | 3 => .array .int
  | 4 => .array .int
  | 5 => .array .int
  | 6 => .array .int
  | 7 => .array .int
  | _ => .int
abbrev wsX70 : List Cond := u_ws RX7 TX7 9
theorem nmX7 : ∀ a, a < 9 → ∀ b, b < 9 → a ≠ b → (TX7 a).2.1 ≠ (TX7 b).2.1 := by decide +kernel
theorem tyX7_ok : ∀ k, k < 9 → parseFieldDescriptor (TX7 k).2.2.1 = some (tyX7 k) := by decide +kernel
abbrev cX7_init : ByteArray := prog_9_method_1_code
def yX7_init : MethodName := ⟨RX7, "<init>", "()V"⟩
abbrev cX7_make : ByteArray := prog_9_method_2_code
def yX7_make : MethodName := ⟨RX7, "make", "(III)I"⟩
abbrev cX7_find : ByteArray := prog_9_method_3_code
def yX7_find : MethodName := ⟨RX7, "find", "(IIII)I"⟩
abbrev cX7_append : ByteArray := prog_9_method_4_code
def yX7_append : MethodName := ⟨RX7, "append", "(IIII)I"⟩
abbrev cX7_bucketOf : ByteArray := prog_9_method_5_code
def yX7_bucketOf : MethodName := ⟨RX7, "bucketOf", "(III)I"⟩
abbrev cX7_shorten : ByteArray := prog_9_method_6_code
def yX7_shorten : MethodName := ⟨RX7, "shorten", "(I)V"⟩
abbrev cX7_isFunction : ByteArray := prog_9_method_7_code
def yX7_isFunction : MethodName := ⟨RX7, "isFunction", "(I)Z"⟩
abbrev cX7_answerOf : ByteArray := prog_9_method_8_code
def yX7_answerOf : MethodName := ⟨RX7, "answerOf", "(I)I"⟩
abbrev cX7_codeAt : ByteArray := prog_9_method_9_code
def yX7_codeAt : MethodName := ⟨RX7, "codeAt", "(II)I"⟩
abbrev cX7_unmark : ByteArray := prog_9_method_10_code
def yX7_unmark : MethodName := ⟨RX7, "unmark", "()V"⟩
abbrev cX7_mark : ByteArray := prog_9_method_11_code
def yX7_mark : MethodName := ⟨RX7, "mark", "(I)V"⟩
abbrev cX7_spreadMarks : ByteArray := prog_9_method_12_code
def yX7_spreadMarks : MethodName := ⟨RX7, "spreadMarks", "()V"⟩
abbrev cX7_markedVariables : ByteArray := prog_9_method_13_code
def yX7_markedVariables : MethodName := ⟨RX7, "markedVariables", "()I"⟩
abbrev cX7_lowestMarkedVariable : ByteArray := prog_9_method_14_code
def yX7_lowestMarkedVariable : MethodName := ⟨RX7, "lowestMarkedVariable", "(I)I"⟩
abbrev cX7_putIn : ByteArray := prog_9_method_15_code
def yX7_putIn : MethodName := ⟨RX7, "putIn", "(II)V"⟩
abbrev cX7_makeImages : ByteArray := prog_9_method_16_code
def yX7_makeImages : MethodName := ⟨RX7, "makeImages", "()Z"⟩
abbrev cX7_shortenToMarked : ByteArray := prog_9_method_17_code
def yX7_shortenToMarked : MethodName := ⟨RX7, "shortenToMarked", "(I)V"⟩
abbrev cX7_imageOf : ByteArray := prog_9_method_18_code
def yX7_imageOf : MethodName := ⟨RX7, "imageOf", "(I)I"⟩
abbrev cX7_becomes : ByteArray := prog_9_method_19_code
def yX7_becomes : MethodName := ⟨RX7, "becomes", "(II)Z"⟩
abbrev cX7_matches : ByteArray := prog_9_method_20_code
def yX7_matches : MethodName := ⟨RX7, "matches", "(III)Z"⟩
def RX8 : String := "TraceJudge"
def TX8 : u_T := fun k => match k with
  | 0 => ("TraceJudge", "types", "LTraceJudge$Types;", true)
  | 1 => ("TraceJudge", "signature", "LTraceJudge$Signature;", true)
  | 2 => ("TraceJudge", "entries", "LTraceJudge$Entries;", true)
  | 3 => ("TraceJudge", "rows", "LTraceJudge$Rows;", true)
  | 4 => ("TraceJudge", "sequents", "LTraceJudge$Sequents;", true)
  | 5 => ("TraceJudge", "steps", "LTraceJudge$Steps;", true)
  | 6 => ("TraceJudge", "axioms", "LTraceJudge$Axioms;", true)
  | 7 => ("TraceJudge", "said", "[I", false)
  | 8 => ("TraceJudge", "waiting", "I", false)
  | _ => ("TraceJudge", "faultAt", "I", false)
def tyX8 : Nat → FieldType := fun k => match k with
  | 0 => .object "TraceJudge$Types"
  | 1 => .object "TraceJudge$Signature"
  | 2 => .object "TraceJudge$Entries"
  | 3 => .object "TraceJudge$Rows"
  | 4 => .object "TraceJudge$Sequents"
  | 5 => .object "TraceJudge$Steps"
  | 6 => .object "TraceJudge$Axioms"
  | 7 => .array .int
  | 8 => .int
  | _ => .int
abbrev wsX80 : List Cond := u_ws RX8 TX8 10
theorem nmX8 : ∀ a, a < 10 → ∀ b, b < 10 → a ≠ b → (TX8 a).2.1 ≠ (TX8 b).2.1 := by decide +kernel
theorem tyX8_ok : ∀ k, k < 10 → parseFieldDescriptor (TX8 k).2.2.1 = some (tyX8 k) := by decide +kernel
abbrev cX8_init : ByteArray := prog_1_method_1_code
def yX8_init : MethodName := ⟨RX8, "<init>", "()V"⟩
abbrev cX8_say : ByteArray := prog_1_method_2_code
def yX8_say : MethodName := ⟨RX8, "say", "(I)Z"⟩
abbrev cX8_judge : ByteArray := prog_1_method_3_code
def yX8_judge : MethodName := ⟨RX8, "judge", "()I"⟩
abbrev cX8_fault : ByteArray := prog_1_method_4_code
def yX8_fault : MethodName := ⟨RX8, "fault", "()I"⟩
abbrev cX8_size : ByteArray := prog_1_method_5_code
def yX8_size : MethodName := ⟨RX8, "size", "()I"⟩
abbrev cX8_hypotheses : ByteArray := prog_1_method_6_code
def yX8_hypotheses : MethodName := ⟨RX8, "hypotheses", "(I)I"⟩
abbrev cX8_symbol : ByteArray := prog_1_method_7_code
def yX8_symbol : MethodName := ⟨RX8, "symbol", "(III)I"⟩
abbrev cX8_typeSymbol : ByteArray := prog_1_method_8_code
def yX8_typeSymbol : MethodName := ⟨RX8, "typeSymbol", "(IIII)I"⟩
abbrev cX8_cut : ByteArray := prog_1_method_9_code
def yX8_cut : MethodName := ⟨RX8, "cut", "(I)V"⟩
abbrev cX8_keep : ByteArray := prog_1_method_10_code
def yX8_keep : MethodName := ⟨RX8, "keep", "(II)V"⟩
abbrev cX8_entryLength : ByteArray := prog_1_method_11_code
def yX8_entryLength : MethodName := ⟨RX8, "entryLength", "(I)I"⟩
abbrev cX8_accepts : ByteArray := prog_1_method_12_code
def yX8_accepts : MethodName := ⟨RX8, "accepts", "(I)Z"⟩
abbrev cX8_longer : ByteArray := prog_1_method_13_code
def yX8_longer : MethodName := ⟨RX8, "longer", "([I)[I"⟩
abbrev cX8_partOf : ByteArray := prog_1_method_14_code
def yX8_partOf : MethodName := ⟨RX8, "partOf", "([II)I"⟩
abbrev cX8_isName : ByteArray := prog_1_method_15_code
def yX8_isName : MethodName := ⟨RX8, "isName", "(I)Z"⟩
def RX9 : String := "TraceJudgeModel"
def TX9 : u_T := fun k => match k with
  | 0 => ("TraceJudgeModel", "code", "I", false)
  | 1 => ("TraceJudgeModel", "said", "I", false)
  | 2 => ("TraceJudgeModel", "word", "[I", true)
  | 3 => ("TraceJudgeModel", "fault", "I", false)
  | 4 => ("TraceJudgeModel", "types", "I", false)
  | 5 => ("TraceJudgeModel", "maker", "[I", true)
  | 6 => ("TraceJudgeModel", "left", "[I", true)
  | 7 => ("TraceJudgeModel", "right", "[I", true)
  | 8 => ("TraceJudgeModel", "typeWide", "[I", true)
  | 9 => ("TraceJudgeModel", "typeHigh", "[I", true)
  | 10 => ("TraceJudgeModel", "typeBehind", "[I", true)
  | 11 => ("TraceJudgeModel", "typeChain", "[I", true)
  | 12 => ("TraceJudgeModel", "typeImage", "[I", true)
  | 13 => ("TraceJudgeModel", "constructors", "I", false)
  | 14 => ("TraceJudgeModel", "takes", "[I", true)
  | 15 => ("TraceJudgeModel", "constants", "I", false)
  | 16 => ("TraceJudgeModel", "own", "[I", true)
  | 17 => ("TraceJudgeModel", "nodes", "I", false)
  | 18 => ("TraceJudgeModel", "kind", "[I", true)
  | 19 => ("TraceJudgeModel", "first", "[I", true)
  | 20 => ("TraceJudgeModel", "second", "[I", true)
  | 21 => ("TraceJudgeModel", "type", "[I", true)
  | 22 => ("TraceJudgeModel", "wide", "[I", true)
  | 23 => ("TraceJudgeModel", "high", "[I", true)
  | 24 => ("TraceJudgeModel", "reach", "[I", true)
  | 25 => ("TraceJudgeModel", "behind", "[I", true)
  | 26 => ("TraceJudgeModel", "chain", "[I", true)
  | 27 => ("TraceJudgeModel", "image", "[I", true)
  | 28 => ("TraceJudgeModel", "typeEntries", "I", false)
  | 29 => ("TraceJudgeModel", "termEntries", "I", false)
  | 30 => ("TraceJudgeModel", "typeEntry", "[I", true)
  | 31 => ("TraceJudgeModel", "termEntry", "[I", true)
  | 32 => ("TraceJudgeModel", "sequents", "I", false)
  | 33 => ("TraceJudgeModel", "used", "I", false)
  | 34 => ("TraceJudgeModel", "together", "I", false)
  | 35 => ("TraceJudgeModel", "conclusion", "[I", true)
  | 36 => ("TraceJudgeModel", "begin", "[I", true)
  | 37 => ("TraceJudgeModel", "many", "[I", true)
  | 38 => ("TraceJudgeModel", "step", "[I", true)
  | 39 => ("TraceJudgeModel", "nodesThen", "[I", true)
  | 40 => ("TraceJudgeModel", "typesThen", "[I", true)
  | 41 => ("TraceJudgeModel", "typeEntriesThen", "[I", true)
  | 42 => ("TraceJudgeModel", "termEntriesThen", "[I", true)
  | 43 => ("TraceJudgeModel", "pool", "[I", true)
  | 44 => ("TraceJudgeModel", "typesFirst", "I", false)
  | 45 => ("TraceJudgeModel", "bad", "Z", false)
  | 46 => ("TraceJudgeModel", "found", "I", false)
  | 47 => ("TraceJudgeModel", "variable", "[I", true)
  | 48 => ("TraceJudgeModel", "became", "[I", true)
  | 49 => ("TraceJudgeModel", "at", "I", false)
  | 50 => ("TraceJudgeModel", "numbers", "[I", true)
  | 51 => ("TraceJudgeModel", "noted", "I", false)
  | _ => ("TraceJudgeModel", "note", "[I", true)
def tyX9 : Nat → FieldType := fun k => match k with
  | 0 => .int
  | 1 => .int
  | 2 => .array .int
  | 3 => .int
  | 4 => .int
  | 5 => .array .int
  | 6 => .array .int
  | 7 => .array .int
  | 8 => .array .int
  | 9 => .array .int
  | 10 => .array .int
  | 11 => .array .int
  | 12 => .array .int
  | 13 => .int
  | 14 => .array .int
  | 15 => .int
  | 16 => .array .int
  | 17 => .int
  | 18 => .array .int
  | 19 => .array .int
  | 20 => .array .int
  | 21 => .array .int
  | 22 => .array .int
  | 23 => .array .int
  | 24 => .array .int
  | 25 => .array .int
  | 26 => .array .int
  | 27 => .array .int
  | 28 => .int
  | 29 => .int
  | 30 => .array .int
  | 31 => .array .int
  | 32 => .int
  | 33 => .int
  | 34 => .int
  | 35 => .array .int
  | 36 => .array .int
  | 37 => .array .int
  | 38 => .array .int
  | 39 => .array .int
  | 40 => .array .int
  | 41 => .array .int
  | 42 => .array .int
  | 43 => .array .int
  | 44 => .int
  | 45 => .boolean
  | 46 => .int
  | 47 => .array .int
  | 48 => .array .int
  | 49 => .int
  | 50 => .array .int
  | 51 => .int
  | _ => .array .int
abbrev wsX90 : List Cond := u_ws RX9 TX9 53
theorem nmX9 : ∀ a, a < 53 → ∀ b, b < 53 → a ≠ b → (TX9 a).2.1 ≠ (TX9 b).2.1 := by decide +kernel
theorem tyX9_ok : ∀ k, k < 53 → parseFieldDescriptor (TX9 k).2.2.1 = some (tyX9 k) := by decide +kernel
abbrev cX9_init : ByteArray := prog_11_method_1_code
def yX9_init : MethodName := ⟨RX9, "<init>", "()V"⟩
abbrev cX9_thrown : ByteArray := prog_11_method_2_code
def yX9_thrown : MethodName := ⟨RX9, "thrown", "()I"⟩
abbrev cX9_outside : ByteArray := prog_11_method_3_code
def yX9_outside : MethodName := ⟨RX9, "outside", "(II)Z"⟩
abbrev cX9_need : ByteArray := prog_11_method_4_code
def yX9_need : MethodName := ⟨RX9, "need", "(Z)Z"⟩
abbrev cX9_chainOf : ByteArray := prog_11_method_5_code
def yX9_chainOf : MethodName := ⟨RX9, "chainOf", "(IIII)I"⟩
abbrev cX9_typeOf : ByteArray := prog_11_method_6_code
def yX9_typeOf : MethodName := ⟨RX9, "typeOf", "(III)I"⟩
abbrev cX9_truths : ByteArray := prog_11_method_7_code
def yX9_truths : MethodName := ⟨RX9, "truths", "()I"⟩
abbrev cX9_functions : ByteArray := prog_11_method_8_code
def yX9_functions : MethodName := ⟨RX9, "functions", "(II)I"⟩
abbrev cX9_fits : ByteArray := prog_11_method_9_code
def yX9_fits : MethodName := ⟨RX9, "fits", "(II)Z"⟩
abbrev cX9_exchanged : ByteArray := prog_11_method_10_code
def yX9_exchanged : MethodName := ⟨RX9, "exchanged", "(I)I"⟩
abbrev cX9_node : ByteArray := prog_11_method_11_code
def yX9_node : MethodName := ⟨RX9, "node", "(IIII)I"⟩
abbrev cX9_free : ByteArray := prog_11_method_12_code
def yX9_free : MethodName := ⟨RX9, "free", "(II)I"⟩
abbrev cX9_constant : ByteArray := prog_11_method_13_code
def yX9_constant : MethodName := ⟨RX9, "constant", "(II)I"⟩
abbrev cX9_canApply : ByteArray := prog_11_method_14_code
def yX9_canApply : MethodName := ⟨RX9, "canApply", "(II)Z"⟩
abbrev cX9_apply : ByteArray := prog_11_method_15_code
def yX9_apply : MethodName := ⟨RX9, "apply", "(II)I"⟩
abbrev cX9_abstracted : ByteArray := prog_11_method_16_code
def yX9_abstracted : MethodName := ⟨RX9, "abstracted", "(II)I"⟩
abbrev cX9_bind : ByteArray := prog_11_method_17_code
def yX9_bind : MethodName := ⟨RX9, "bind", "(III)I"⟩
abbrev cX9_abstraction : ByteArray := prog_11_method_18_code
def yX9_abstraction : MethodName := ⟨RX9, "abstraction", "(II)I"⟩
abbrev cX9_opened : ByteArray := prog_11_method_19_code
def yX9_opened : MethodName := ⟨RX9, "opened", "(III)I"⟩
abbrev cX9_replaced : ByteArray := prog_11_method_20_code
def yX9_replaced : MethodName := ⟨RX9, "replaced", "(III)I"⟩
abbrev cX9_retyped : ByteArray := prog_11_method_21_code
def yX9_retyped : MethodName := ⟨RX9, "retyped", "(I)I"⟩
abbrev cX9_occurs : ByteArray := prog_11_method_22_code
def yX9_occurs : MethodName := ⟨RX9, "occurs", "(II)Z"⟩
abbrev cX9_isOf : ByteArray := prog_11_method_23_code
def yX9_isOf : MethodName := ⟨RX9, "isOf", "(III)Z"⟩
abbrev cX9_equation : ByteArray := prog_11_method_24_code
def yX9_equation : MethodName := ⟨RX9, "equation", "(II)I"⟩
abbrev cX9_isEquation : ByteArray := prog_11_method_25_code
def yX9_isEquation : MethodName := ⟨RX9, "isEquation", "(I)Z"⟩
abbrev cX9_leftOf : ByteArray := prog_11_method_26_code
def yX9_leftOf : MethodName := ⟨RX9, "leftOf", "(I)I"⟩
abbrev cX9_next : ByteArray := prog_11_method_27_code
def yX9_next : MethodName := ⟨RX9, "next", "()I"⟩
abbrev cX9_nextType : ByteArray := prog_11_method_28_code
def yX9_nextType : MethodName := ⟨RX9, "nextType", "()I"⟩
abbrev cX9_nextTerm : ByteArray := prog_11_method_29_code
def yX9_nextTerm : MethodName := ⟨RX9, "nextTerm", "()I"⟩
abbrev cX9_nextClosed : ByteArray := prog_11_method_30_code
def yX9_nextClosed : MethodName := ⟨RX9, "nextClosed", "()I"⟩
abbrev cX9_nextSequent : ByteArray := prog_11_method_31_code
def yX9_nextSequent : MethodName := ⟨RX9, "nextSequent", "()I"⟩
abbrev cX9_keepType : ByteArray := prog_11_method_32_code
def yX9_keepType : MethodName := ⟨RX9, "keepType", "(I)V"⟩
abbrev cX9_keepTerm : ByteArray := prog_11_method_33_code
def yX9_keepTerm : MethodName := ⟨RX9, "keepTerm", "(I)V"⟩
abbrev cX9_readType : ByteArray := prog_11_method_34_code
def yX9_readType : MethodName := ⟨RX9, "readType", "(I)V"⟩
abbrev cX9_readTerm : ByteArray := prog_11_method_35_code
def yX9_readTerm : MethodName := ⟨RX9, "readTerm", "(I)V"⟩
abbrev cX9_add : ByteArray := prog_11_method_36_code
def yX9_add : MethodName := ⟨RX9, "add", "(I)V"⟩
abbrev cX9_addAll : ByteArray := prog_11_method_37_code
def yX9_addAll : MethodName := ⟨RX9, "addAll", "(II)V"⟩
abbrev cX9_open : ByteArray := prog_11_method_38_code
def yX9_open : MethodName := ⟨RX9, "open", "()V"⟩
abbrev cX9_close : ByteArray := prog_11_method_39_code
def yX9_close : MethodName := ⟨RX9, "close", "(II)V"⟩
abbrev cX9_noteState : ByteArray := prog_11_method_40_code
def yX9_noteState : MethodName := ⟨RX9, "noteState", "(I)V"⟩
abbrev cX9_joined : ByteArray := prog_11_method_41_code
def yX9_joined : MethodName := ⟨RX9, "joined", "(II)V"⟩
abbrev cX9_readStep : ByteArray := prog_11_method_42_code
def yX9_readStep : MethodName := ⟨RX9, "readStep", "(I)V"⟩
abbrev cX9_stepOfTerm : ByteArray := prog_11_method_43_code
def yX9_stepOfTerm : MethodName := ⟨RX9, "stepOfTerm", "(II)V"⟩
abbrev cX9_stepOfTwo : ByteArray := prog_11_method_44_code
def yX9_stepOfTwo : MethodName := ⟨RX9, "stepOfTwo", "(III)V"⟩
abbrev cX9_stepAbstract : ByteArray := prog_11_method_45_code
def yX9_stepAbstract : MethodName := ⟨RX9, "stepAbstract", "(II)V"⟩
abbrev cX9_stepPut : ByteArray := prog_11_method_46_code
def yX9_stepPut : MethodName := ⟨RX9, "stepPut", "()V"⟩
abbrev cX9_stepRetype : ByteArray := prog_11_method_47_code
def yX9_stepRetype : MethodName := ⟨RX9, "stepRetype", "()V"⟩
abbrev cX9_variableOf : ByteArray := prog_11_method_48_code
def yX9_variableOf : MethodName := ⟨RX9, "variableOf", "(I)I"⟩
abbrev cX9_noteType : ByteArray := prog_11_method_49_code
def yX9_noteType : MethodName := ⟨RX9, "noteType", "(I)V"⟩
abbrev cX9_noteAll : ByteArray := prog_11_method_50_code
def yX9_noteAll : MethodName := ⟨RX9, "noteAll", "(I)Z"⟩
abbrev cX9_define : ByteArray := prog_11_method_51_code
def yX9_define : MethodName := ⟨RX9, "define", "(I)V"⟩
abbrev cX9_stepType : ByteArray := prog_11_method_52_code
def yX9_stepType : MethodName := ⟨RX9, "stepType", "(I)V"⟩
abbrev cX9_named : ByteArray := prog_11_method_53_code
def yX9_named : MethodName := ⟨RX9, "named", "(II)I"⟩
abbrev cX9_truth : ByteArray := prog_11_method_54_code
def yX9_truth : MethodName := ⟨RX9, "truth", "()I"⟩
abbrev cX9_and : ByteArray := prog_11_method_55_code
def yX9_and : MethodName := ⟨RX9, "and", "(II)I"⟩
abbrev cX9_implies : ByteArray := prog_11_method_56_code
def yX9_implies : MethodName := ⟨RX9, "implies", "(II)I"⟩
abbrev cX9_all : ByteArray := prog_11_method_57_code
def yX9_all : MethodName := ⟨RX9, "all", "(II)I"⟩
abbrev cX9_choiceOf : ByteArray := prog_11_method_58_code
def yX9_choiceOf : MethodName := ⟨RX9, "choiceOf", "(I)I"⟩
abbrev cX9_some : ByteArray := prog_11_method_59_code
def yX9_some : MethodName := ⟨RX9, "some", "(II)I"⟩
abbrev cX9_not : ByteArray := prog_11_method_60_code
def yX9_not : MethodName := ⟨RX9, "not", "(I)I"⟩
abbrev cX9_extensionality : ByteArray := prog_11_method_61_code
def yX9_extensionality : MethodName := ⟨RX9, "extensionality", "()I"⟩
abbrev cX9_chosen : ByteArray := prog_11_method_62_code
def yX9_chosen : MethodName := ⟨RX9, "chosen", "()I"⟩
abbrev cX9_infinite : ByteArray := prog_11_method_63_code
def yX9_infinite : MethodName := ⟨RX9, "infinite", "()I"⟩
abbrev cX9_stepAxiom : ByteArray := prog_11_method_64_code
def yX9_stepAxiom : MethodName := ⟨RX9, "stepAxiom", "(I)V"⟩
abbrev cX9_say : ByteArray := prog_11_method_65_code
def yX9_say : MethodName := ⟨RX9, "say", "(I)Z"⟩
abbrev cX9_cutTypes : ByteArray := prog_11_method_66_code
def yX9_cutTypes : MethodName := ⟨RX9, "cutTypes", "(I)V"⟩
abbrev cX9_cutNodes : ByteArray := prog_11_method_67_code
def yX9_cutNodes : MethodName := ⟨RX9, "cutNodes", "(I)V"⟩
abbrev cX9_judge : ByteArray := prog_11_method_68_code
def yX9_judge : MethodName := ⟨RX9, "judge", "()I"⟩
abbrev cX9_fault : ByteArray := prog_11_method_69_code
def yX9_fault : MethodName := ⟨RX9, "fault", "()I"⟩
abbrev cX9_size : ByteArray := prog_11_method_70_code
def yX9_size : MethodName := ⟨RX9, "size", "()I"⟩
abbrev cX9_hypotheses : ByteArray := prog_11_method_71_code
def yX9_hypotheses : MethodName := ⟨RX9, "hypotheses", "(I)I"⟩
abbrev cX9_partAt : ByteArray := prog_11_method_72_code
def yX9_partAt : MethodName := ⟨RX9, "partAt", "(II)I"⟩
abbrev cX9_look : ByteArray := prog_11_method_73_code
def yX9_look : MethodName := ⟨RX9, "look", "(III)I"⟩
abbrev cX9_symbol : ByteArray := prog_11_method_74_code
def yX9_symbol : MethodName := ⟨RX9, "symbol", "(III)I"⟩
abbrev cX9_typeSymbol : ByteArray := prog_11_method_75_code
def yX9_typeSymbol : MethodName := ⟨RX9, "typeSymbol", "(IIII)I"⟩
abbrev cX9_canCut : ByteArray := prog_11_method_76_code
def yX9_canCut : MethodName := ⟨RX9, "canCut", "(I)Z"⟩
abbrev cX9_cutTo : ByteArray := prog_11_method_77_code
def yX9_cutTo : MethodName := ⟨RX9, "cutTo", "(I)V"⟩
abbrev cX9_cut : ByteArray := prog_11_method_78_code
def yX9_cut : MethodName := ⟨RX9, "cut", "(I)V"⟩
abbrev cX9_mark : ByteArray := prog_11_method_79_code
def yX9_mark : MethodName := ⟨RX9, "mark", "(III)V"⟩
abbrev cX9_keep : ByteArray := prog_11_method_80_code
def yX9_keep : MethodName := ⟨RX9, "keep", "(II)V"⟩
def RJx8e188 : String := "java/lang/Cloneable"
def RJ9 : String := "java/lang/Math"
abbrev cJ9_max_7cf53 : ByteArray := prog_17_method_65_code
def yJ9_max_7cf53 : MethodName := ⟨RJ9, "max", "(II)I"⟩
abbrev cJ9_min_7cf53 : ByteArray := prog_17_method_69_code
def yJ9_min_7cf53 : MethodName := ⟨RJ9, "min", "(II)I"⟩
def RJ0 : String := "java/lang/String"
def RJ10 : String := "java/lang/System"
def RJ7 : String := "java/util/Arrays"
abbrev cJ7_fill_53178 : ByteArray := prog_22_method_103_code
def yJ7_fill_53178 : MethodName := ⟨RJ7, "fill", "([II)V"⟩
abbrev cJ7_copyOf_59c91 : ByteArray := prog_22_method_123_code
def yJ7_copyOf_59c91 : MethodName := ⟨RJ7, "copyOf", "([II)[I"⟩
def RL : String := "TraceJudgeLaw"
abbrev cL_hypotheses : ByteArray := method_3_code
def yL_hypotheses : MethodName := ⟨RL, "hypotheses", "(LTraceJudge;I[J)I"⟩
abbrev cL_symbol : ByteArray := method_4_code
def yL_symbol : MethodName := ⟨RL, "symbol", "(LTraceJudge;III[J)I"⟩
abbrev cL_typeSymbol : ByteArray := method_5_code
def yL_typeSymbol : MethodName := ⟨RL, "typeSymbol", "(LTraceJudge;IIII[J)I"⟩
abbrev cL_cut : ByteArray := method_6_code
def yL_cut : MethodName := ⟨RL, "cut", "(LTraceJudge;I)I"⟩
abbrev cL_keep : ByteArray := method_7_code
def yL_keep : MethodName := ⟨RL, "keep", "(LTraceJudge;II)I"⟩
abbrev cL_law : ByteArray := code
def yL_law : MethodName := ⟨RL, "law", "([I)Z"⟩
abbrev vwCl : List vw_C := [(RX0, TX0, 5), (RX1, TX1, 14), (RX2, TX2, 4), (RX3, TX3, 8), (RX4, TX4, 9), (RX5, TX5, 6), (RX6, TX6, 5), (RX7, TX7, 9), (RX8, TX8, 10), (RX9, TX9, 53)]
/-- the tables, by parts -/
def am_T : List (List Cond) := [k2_sels lw_privs, tables_1_1, tables_1_2, tables_1_3, tables_1_4, tables_1_5, tables_1_6, tables_1_7]
/-- the words that every method gets -/
def am_W : List Cond := lw_tbl.filter goodWord
def am_wd (q : Nat × Nat) : Option Cond := match am_T[q.1]? with
  | some l => l[q.2]?
  | none => none
theorem am_wd_in {q : Nat × Nat} {w : Cond} (h : am_wd q = some w) : w ∈ lw_tbl := by
  unfold am_wd at h
  split at h
  · rename_i l hl
    have h1 : w ∈ l := List.mem_of_getElem? h
    have h2 : l ∈ am_T := List.mem_of_getElem? hl
    simp only [am_T, List.mem_cons, List.not_mem_nil, or_false] at h2
    unfold lw_tbl tables_1
    rcases h2 with rfl | rfl | rfl | rfl | rfl | rfl | rfl | rfl <;> simp only [List.mem_append] <;> simp [h1]
  · cases h
theorem am_in {q : Nat × Nat} {w : Cond} (h : am_wd q = some w) (hg : goodWord w = true) : w ∈ am_W := List.mem_filter.mpr ⟨am_wd_in h, hg⟩
theorem am_ins (ws : List Cond) (ps : List (Nat × Nat)) (hp : ws.map some = ps.map am_wd) (h : ws.all goodWord = true) : ∀ w ∈ ws, w ∈ am_W := by
  intro w hw
  have h1 : some w ∈ ps.map am_wd := by rw [← hp]; exact List.mem_map.mpr ⟨w, hw, rfl⟩
  obtain ⟨q, -, hq⟩ := List.mem_map.mp h1
  exact am_in hq (List.all_eq_true.mp h w hw)
theorem am_W_good {w : Cond} (h : w ∈ am_W) : goodWord w = true := (List.mem_filter.mp h).2
theorem am_W_tbl {w : Cond} (h : w ∈ am_W) : w ∈ lw_tbl := (List.mem_filter.mp h).1
theorem am_in0 : ∀ w ∈ u_ws RX0 TX0 5, w ∈ am_W := am_ins _ [(2, 80), (2, 82), (2, 84), (2, 86), (2, 88)] (by decide +kernel) (by decide +kernel)
theorem am_in1 : ∀ w ∈ u_ws RX1 TX1 14, w ∈ am_W := am_ins _ [(1, 172), (1, 174), (1, 176), (1, 178), (1, 180), (1, 182), (1, 184), (1, 186), (1, 188), (1, 190), (1, 192), (1, 194), (1, 196), (1, 198)] (by decide +kernel) (by decide +kernel)
theorem am_in2 : ∀ w ∈ u_ws RX2 TX2 4, w ∈ am_W := am_ins _ [(3, 70), (3, 72), (3, 74), (3, 76)] (by decide +kernel) (by decide +kernel)
theorem am_in3 : ∀ w ∈ u_ws RX3 TX3 8, w ∈ am_W := am_ins _ [(1, 228), (1, 230), (1, 232), (1, 234), (1, 236), (1, 238), (2, 0), (2, 2)] (by decide +kernel) (by decide +kernel)
theorem am_in4 : ∀ w ∈ u_ws RX4 TX4 9, w ∈ am_W := am_ins _ [(2, 26), (2, 28), (2, 30), (2, 32), (2, 34), (2, 36), (2, 38), (2, 40), (2, 42)] (by decide +kernel) (by decide +kernel)
theorem am_in5 : ∀ w ∈ u_ws RX5 TX5 6, w ∈ am_W := am_ins _ [(1, 132), (1, 134), (1, 136), (1, 138), (1, 140), (1, 142)] (by decide +kernel) (by decide +kernel)
theorem am_in6 : ∀ w ∈ u_ws RX6 TX6 5, w ∈ am_W := am_ins _ [(2, 56), (2, 58), (2, 60), (2, 62), (2, 64)] (by decide +kernel) (by decide +kernel)
theorem am_in7 : ∀ w ∈ u_ws RX7 TX7 9, w ∈ am_W := am_ins _ [(1, 96), (1, 98), (1, 100), (1, 102), (1, 104), (1, 106), (1, 108), (1, 110), (1, 112)] (by decide +kernel) (by decide +kernel)
theorem am_in8 : ∀ w ∈ u_ws RX8 TX8 10, w ∈ am_W := am_ins _ [(2, 101), (2, 103), (2, 105), (2, 107), (2, 109), (2, 111), (2, 113), (2, 115), (2, 117), (2, 119)] (by decide +kernel) (by decide +kernel)
theorem am_in9 : ∀ w ∈ u_ws RX9 TX9 53, w ∈ am_W := am_ins _ [(5, 94), (5, 96), (5, 98), (5, 100), (5, 102), (5, 104), (5, 106), (5, 108), (5, 110), (5, 112), (5, 114), (5, 116), (5, 118), (5, 120), (5, 122), (5, 124), (5, 126), (5, 128), (5, 130), (5, 132), (5, 134), (5, 136), (5, 138), (5, 140), (5, 142), (5, 144), (5, 146), (5, 148), (5, 150), (5, 152), (5, 154), (5, 156), (5, 158), (5, 160), (5, 162), (5, 164), (5, 166), (5, 168), (5, 170), (5, 172), (5, 174), (5, 176), (5, 178), (5, 180), (5, 182), (5, 184), (5, 186), (5, 188), (5, 190), (5, 192), (5, 194), (5, 196), (5, 198)] (by decide +kernel) (by decide +kernel)
def am_NF : List (String × Nat × String × String × String × String) := [("TraceJudge$Steps", 219, "TraceJudge$Types", "code", "[I", "TraceJudge"), ("TraceJudge$Steps", 91, "TraceJudge$Types", "left", "[I", "TraceJudge"), ("TraceJudge$Entries", 98, "TraceJudge$Types", "left", "[I", "TraceJudge"), ("TraceJudge$Steps", 93, "TraceJudge$Types", "right", "[I", "TraceJudge"), ("TraceJudge$Entries", 99, "TraceJudge$Types", "right", "[I", "TraceJudge"), ("TraceJudge", 128, "TraceJudge$Types", "symbols", "[I", "TraceJudge"), ("TraceJudge$Rows", 57, "TraceJudge$Types", "image", "[I", "TraceJudge"), ("TraceJudge$Sequents", 43, "TraceJudge$Types", "count", "I", "TraceJudge"), ("TraceJudge", 83, "TraceJudge$Types", "count", "I", "TraceJudge"), ("TraceJudge$Entries", 73, "TraceJudge$Signature", "takes", "[I", "TraceJudge"), ("TraceJudge", 196, "TraceJudge$Signature", "takes", "[I", "TraceJudge"), ("TraceJudge$Entries", 88, "TraceJudge$Signature", "own", "[I", "TraceJudge"), ("TraceJudge$Steps", 165, "TraceJudge$Entries", "typeAt", "[I", "TraceJudge"), ("TraceJudge$Sequents", 99, "TraceJudge$Entries", "typeCount", "I", "TraceJudge"), ("TraceJudge$Steps", 101, "TraceJudge$Entries", "code", "[I", "TraceJudge"), ("TraceJudge$Steps", 37, "TraceJudge$Entries", "type", "[I", "TraceJudge"), ("TraceJudge$Steps", 125, "TraceJudge$Entries", "left", "[I", "TraceJudge"), ("TraceJudge$Steps", 126, "TraceJudge$Entries", "right", "[I", "TraceJudge"), ("TraceJudge$Sequents", 104, "TraceJudge$Entries", "termCount", "I", "TraceJudge"), ("TraceJudge", 125, "TraceJudge$Rows", "code", "[I", "TraceJudge"), ("TraceJudge$Steps", 144, "TraceJudge$Rows", "code", "[I", "TraceJudge"), ("TraceJudge", 131, "TraceJudge$Rows", "type", "[I", "TraceJudge"), ("TraceJudge$Steps", 145, "TraceJudge$Rows", "type", "[I", "TraceJudge"), ("TraceJudge$Steps", 127, "TraceJudge$Rows", "top", "I", "TraceJudge"), ("TraceJudge$Sequents", 82, "TraceJudge$Rows", "top", "I", "TraceJudge"), ("TraceJudge$Steps", 104, "TraceJudge$Rows", "start", "[I", "TraceJudge"), ("TraceJudge$Sequents", 57, "TraceJudge$Rows", "start", "[I", "TraceJudge"), ("TraceJudge", 165, "TraceJudge$Rows", "start", "[I", "TraceJudge"), ("TraceJudge$Sequents", 81, "TraceJudge$Rows", "count", "I", "TraceJudge"), ("TraceJudge$Steps", 130, "TraceJudge$Rows", "bad", "Z", "TraceJudge"), ("TraceJudge$Sequents", 66, "TraceJudge$Rows", "bad", "Z", "TraceJudge"), ("TraceJudge$Entries", 123, "TraceJudge$Rows", "bad", "Z", "TraceJudge"), ("TraceJudge", 86, "TraceJudge$Sequents", "count", "I", "TraceJudge"), ("TraceJudge$Steps", 107, "TraceJudge$Sequents", "first", "[I", "TraceJudge"), ("TraceJudge", 168, "TraceJudge$Sequents", "first", "[I", "TraceJudge"), ("TraceJudge", 148, "TraceJudge$Sequents", "typesThen", "[I", "TraceJudge"), ("TraceJudge", 151, "TraceJudge$Sequents", "entryTypesThen", "[I", "TraceJudge"), ("TraceJudge", 154, "TraceJudge$Sequents", "entryTermsThen", "[I", "TraceJudge"), ("TraceJudge$Steps", 70, "TraceJudge$Equation", "left", "I", "TraceJudge"), ("TraceJudge$Steps", 61, "TraceJudge$Equation", "right", "I", "TraceJudge"), ("TraceJudge$Steps", 67, "TraceJudge$Equation", "end", "I", "TraceJudge"), ("TraceJudge$Steps", 81, "TraceJudge$Equation", "type", "I", "TraceJudge")]
def am_NM : List (String × Nat × MethodName × String) := [("TraceJudge$Types", 60, ⟨"TraceJudge", "partOf", "([II)I"⟩, "TraceJudge"), ("TraceJudge$Entries", 61, ⟨"TraceJudge", "isName", "(I)Z"⟩, "TraceJudge"), ("TraceJudge$Entries", 103, ⟨"TraceJudge", "longer", "([I)[I"⟩, "TraceJudge"), ("TraceJudge$Entries", 107, ⟨"TraceJudge", "partOf", "([II)I"⟩, "TraceJudge"), ("TraceJudge$Rows", 39, ⟨"TraceJudge", "longer", "([I)[I"⟩, "TraceJudge"), ("TraceJudge$Sequents", 95, ⟨"TraceJudge", "longer", "([I)[I"⟩, "TraceJudge"), ("TraceJudge$Steps", 155, ⟨"TraceJudge", "isName", "(I)Z"⟩, "TraceJudge")]
def am_SF : Nat → Option (String × String × String) := fun k => match k with
  | 0 => some ("TraceJudge$Axioms", "EXTENSION", "[I")
  | 1 => some ("TraceJudge", "ENTRY_LENGTHS", "[I")
  | 2 => some ("TraceJudge$Axioms", "SELECTION", "[I")
  | 3 => some ("TraceJudge$Axioms", "INFINITY", "[I")
  | 4 => some ("TraceJudge$Axioms", "UNBOUND", "[I")
  | _ => none
/-- the fields of a new object -/
def am_dfl : Nat → List Value := fun k => match k with
  | 0 => [.null, .null, .null, .null, .null]
  | 1 => [.null, .null, .null, .int 0, .null, .null, .null, .null, .null, .null, .null, .int 0, .null, .null]
  | 2 => [.int 0, .int 0, .int 0, .int 0]
  | 3 => [.null, .null, .null, .int 0, .null, .int 0, .int 0, .null]
  | 4 => [.null, .null, .null, .int 0, .int 0, .null, .null, .null, .null]
  | 5 => [.null, .null, .int 0, .int 0, .int 0, .int 0]
  | 6 => [.null, .null, .null, .null, .null]
  | 7 => [.null, .null, .null, .null, .null, .null, .null, .null, .int 0]
  | 8 => [.null, .null, .null, .null, .null, .null, .null, .null, .int 0, .int 0]
  | 9 => [.int 0, .int 0, .null, .int 0, .int 0, .null, .null, .null, .null, .null, .null, .null, .null, .int 0, .null, .int 0, .null, .int 0, .null, .null, .null, .null, .null, .null, .null, .null, .null, .null, .int 0, .int 0, .null, .null, .int 0, .int 0, .int 0, .null, .null, .null, .null, .null, .null, .null, .null, .null, .int 0, .int 0, .int 0, .null, .null, .int 0, .null, .int 0, .null]
  | _ => []
end
section
/-! THE ABSTRACT MACHINE: a pure function that runs resolved rows of bytecode over a heap of int arrays and objects at absolute addresses. -/
abbrev am_C : Type := (Nat × (Nat → Int32)) ⊕ (Nat × List Value)
/-- the heap's size, its known cells, the slots made so far -/
abbrev am_S : Type := Nat × (Nat → Option am_C) × Nat
abbrev am_L : Type := List (Nat × Value)
/-- a row: pc, instruction, length, stop (0 none, 1 an end, k + 2 a head that keeps k locals), three resolved numbers -/
abbrev am_I : Type := Nat × Instr × Nat × Nat × Nat × Nat × Nat
/-- where a run stopped: pc, locals, stack, state -/
abbrev am_O : Type := Nat × am_L × List Value × am_S
/-- a method: name, bytes, locals, answer, rows -/
abbrev am_M : Type := MethodName × ByteArray × Nat × Option FieldType × List am_I
abbrev am_F : Type := Nat → List Value → am_S → Option (Option Value × am_S)
def am_upd (h : Nat → Option am_C) (a : Nat) (c : am_C) : Nat → Option am_C := fun x => if x = a then some c else h x
def am_arr (σ : am_S) (a : Nat) : Option (Nat × (Nat → Int32)) := match σ.2.1 a with
  | some (.inl x) => some x
  | _ => none
def am_obj (σ : am_S) (a ci : Nat) : Option (List Value) := match σ.2.1 a with
  | some (.inr x) => if x.1 = ci then some x.2 else none
  | _ => none
def am_iald (σ : am_S) (a : Nat) (i : Int32) : Option Int32 := (am_arr σ a).bind fun x => if i < 0 ∨ x.1 ≤ i.toNatClampNeg then none else some (x.2 i.toNatClampNeg)
def am_alen (σ : am_S) (a : Nat) : Option Int32 := (am_arr σ a).bind fun x => some (Int32.ofNat x.1)
def am_iast (B : Nat) (σ : am_S) (a : Nat) (i x : Int32) : Option am_S := (am_arr σ a).bind fun y => if a < B ∨ i < 0 ∨ y.1 ≤ i.toNatClampNeg then none else some (σ.1, am_upd σ.2.1 a (.inl (y.1, upd y.2 i.toNatClampNeg x)), σ.2.2)
def am_geti (σ : am_S) (a ci k : Nat) : Option Int32 := (am_obj σ a ci).bind fun fs => match fs[k]? with
  | some (.int x) => some x
  | _ => none
def am_getr (σ : am_S) (a ci k : Nat) : Option Nat := (am_obj σ a ci).bind fun fs => match fs[k]? with
  | some (.ref x) => some x
  | _ => none
def am_put (B : Nat) (σ : am_S) (a ci k : Nat) (v : Value) : Option am_S := (am_obj σ a ci).bind fun fs => if a < B ∨ fs.length ≤ k then none else some (σ.1, am_upd σ.2.1 a (.inr (ci, fs.set k v)), σ.2.2)
def am_new (σ : am_S) (ci : Nat) (fs : List Value) : am_S := (σ.1 + 1, am_upd σ.2.1 σ.1 (.inr (ci, fs)), σ.2.2 + fs.length)
def am_nwa (σ : am_S) (n : Nat) : am_S := (σ.1 + 1, am_upd σ.2.1 σ.1 (.inl (n, fun _ => 0)), σ.2.2 + n)
/-- System.arraycopy of n ints from place sp of a0 to place dp of a -/
def am_cpy (B : Nat) (σ : am_S) (a0 : Nat) (sp : Int32) (a : Nat) (dp n : Int32) : Option am_S :=
  (am_arr σ a0).bind fun x => (am_arr σ a).bind fun y =>
    if a0 < B ∨ a < B ∨ sp < 0 ∨ dp < 0 ∨ n < 0 ∨ x.1 < sp.toNatClampNeg + n.toNatClampNeg ∨ y.1 < dp.toNatClampNeg + n.toNatClampNeg then none
    else some (σ.1, am_upd σ.2.1 a (.inl (y.1, va_cpy x.2 y.2 sp.toNatClampNeg dp.toNatClampNeg n.toNatClampNeg)), σ.2.2)
def am_sto (L : am_L) (i : Nat) (v : Value) : am_L := (i, v) :: L.filter (fun q => !(q.1 == i) && !(q.1 + 1 == i && q.2.category == 2))
def am_lk : am_L → Nat → Option Value
  | [], _ => none
  | q :: L, i => if q.1 = i then some q.2 else am_lk L i
/-- the first k locals in their order -/
def am_keep (L : am_L) : Nat → Nat → Option am_L
  | _, 0 => some []
  | i, k + 1 => (am_lk L i).bind fun v => (am_keep L (i + 1) k).bind fun r => some ((i, v) :: r)
def am_small (st : List Value) : Bool := decide ((st.map fun v => v.category).sum ≤ 8)
def am_sw {α : Type} (v : Int) (dflt : α) (jp : Int → α) : List Int → Int → α
  | [], _ => dflt
  | o :: os, lo => if v = lo then jp o else am_sw v dflt jp os (lo + 1)
/-- what a call gives back, by its kind: 0 nothing, 1 an int, 2 a reference or null -/
def am_back {α : Type} (kind : Nat) (r : Option (Option Value × am_S)) (rest : List Value) (nx : List Value → am_S → Option α) : Option α := match kind with
  | 0 => r.bind fun q => match q.1 with
    | none => nx rest q.2
    | _ => none
  | 1 => r.bind fun q => match q.1 with
    | some (.int x) => nx (.int x :: rest) q.2
    | _ => none
  | _ => r.bind fun q => match q.1 with
    | some (.ref a) => nx (.ref a :: rest) q.2
    | some .null => nx (.null :: rest) q.2
    | _ => none
def am_cond (c : Jvm.ClassFile.Cond) (x y : Int32) : Bool := match c with
  | .eq => decide (x = y)
  | .ne => decide (x ≠ y)
  | .lt => decide (x < y)
  | .ge => decide (y ≤ x)
  | .gt => decide (y < x)
  | .le => decide (x ≤ y)
/-- a call of a method of the table -/
def am_inv {α : Type} (cl : am_F) (x n ret : Nat) (st : List Value) (σ : am_S) (nx : List Value → am_S → Option α) : Option α :=
  if st.length < n then none else if am_small (st.drop n) then am_back ret (cl x (st.take n).reverse σ) (st.drop n) nx else none
/-- the same of a constructor -/
def am_invI {α : Type} (cl : am_F) (x n : Nat) (st : List Value) (σ : am_S) (nx : List Value → am_S → Option α) : Option α :=
  if st.length < n then none else if am_small (st.drop n) then (match (st.take n).reverse with
    | .ref b :: as => am_back 0 (cl x (.ref b :: as) σ) (st.drop n) nx
    | _ => none) else none
/-- the same of an object's method: the receiver is an object of that class -/
def am_invV {α : Type} (cl : am_F) (x n ret ci : Nat) (st : List Value) (σ : am_S) (nx : List Value → am_S → Option α) : Option α :=
  if st.length < n then none else if am_small (st.drop n) then (match (st.take n).reverse with
    | .ref b :: as => (am_obj σ b ci).bind fun _ => am_back ret (cl x (.ref b :: as) σ) (st.drop n) nx
    | _ => none) else none
/-- one row: nx is the next row, jp the row at a pc -/
def am_step {α : Type} (B : Nat) (sa : Nat → Nat) (dfl : Nat → List Value) (cl : am_F) (e : am_I) (L : am_L) (st : List Value) (σ : am_S) (nx : am_L → List Value → am_S → Option α) (jp : Nat → am_L → List Value → am_S → Option α) : Option α :=
  match e.2.1 with
  | .iconst n => nx L (.int (Int32.ofInt n) :: st) σ
  | .bipush n => nx L (.int (Int8.ofInt n).toInt32 :: st) σ
  | .sipush n => nx L (.int (Int16.ofInt n).toInt32 :: st) σ
  | .ldc _ => nx L (.int (Int32.ofNat e.2.2.2.2.1) :: st) σ
  | .ldc_w _ => nx L (.int (Int32.ofNat e.2.2.2.2.1) :: st) σ
  | .aconst_null => nx L (.null :: st) σ
  | .iload_n k => match am_lk L k.val with
    | some (.int v) => nx L (.int v :: st) σ
    | _ => none
  | .iload k => match am_lk L k with
    | some (.int v) => nx L (.int v :: st) σ
    | _ => none
  | .aload_n k => match am_lk L k.val with
    | some (.ref v) => nx L (.ref v :: st) σ
    | some .null => nx L (.null :: st) σ
    | _ => none
  | .aload k => match am_lk L k with
    | some (.ref v) => nx L (.ref v :: st) σ
    | some .null => nx L (.null :: st) σ
    | _ => none
  | .istore_n k => match st with
    | .int v :: r => nx (am_sto L k.val (.int v)) r σ
    | _ => none
  | .istore k => match st with
    | .int v :: r => nx (am_sto L k (.int v)) r σ
    | _ => none
  | .astore_n k => match st with
    | .ref v :: r => nx (am_sto L k.val (.ref v)) r σ
    | .null :: r => nx (am_sto L k.val .null) r σ
    | _ => none
  | .astore k => match st with
    | .ref v :: r => nx (am_sto L k (.ref v)) r σ
    | .null :: r => nx (am_sto L k .null) r σ
    | _ => none
  | .iinc k n => match am_lk L k with
    | some (.int v) => nx (am_sto L k (.int (v + Int32.ofInt n))) st σ
    | _ => none
  | .iadd => match st with
    | .int y :: .int x :: r => nx L (.int (x + y) :: r) σ
    | _ => none
  | .isub => match st with
    | .int y :: .int x :: r => nx L (.int (x - y) :: r) σ
    | _ => none
  | .imul => match st with
    | .int y :: .int x :: r => nx L (.int (x * y) :: r) σ
    | _ => none
  | .iand => match st with
    | .int y :: .int x :: r => nx L (.int (x &&& y) :: r) σ
    | _ => none
  | .ixor => match st with
    | .int y :: .int x :: r => nx L (.int (x ^^^ y) :: r) σ
    | _ => none
  | .iushr => match st with
    | .int y :: .int x :: r => nx L (.int (x.toUInt32 >>> (y.toUInt32 &&& Int32.toUInt32 31)).toInt32 :: r) σ
    | _ => none
  | .idiv => match st with
    | .int y :: .int x :: r => if y = 0 then none else nx L (.int (x / y) :: r) σ
    | _ => none
  | .irem => match st with
    | .int y :: .int x :: r => if y = 0 then none else nx L (.int (x - x / y * y) :: r) σ
    | _ => none
  | .ineg => match st with
    | .int x :: r => nx L (.int (-x) :: r) σ
    | _ => none
  | .dup => match st with
    | .int x :: r => nx L (.int x :: .int x :: r) σ
    | .ref x :: r => nx L (.ref x :: .ref x :: r) σ
    | _ => none
  | .dup2 => match st with
    | .int y :: .ref x :: r => nx L (.int y :: .ref x :: .int y :: .ref x :: r) σ
    | _ => none
  | .pop => match st with
    | .int _ :: r => nx L r σ
    | .ref _ :: r => nx L r σ
    | _ => none
  | .goto _ => jp e.2.2.2.2.1 L st σ
  | .if_icmp c _ => match st with
    | .int y :: .int x :: r => if am_cond c x y = true then jp e.2.2.2.2.1 L r σ else nx L r σ
    | _ => none
  | .ifCond c _ => match st with
    | .int x :: r => if am_cond c x 0 = true then jp e.2.2.2.2.1 L r σ else nx L r σ
    | _ => none
  | .ifnull _ => match st with
    | .null :: r => jp e.2.2.2.2.1 L r σ
    | .ref _ :: r => nx L r σ
    | _ => none
  | .ifnonnull _ => match st with
    | .null :: r => nx L r σ
    | .ref _ :: r => jp e.2.2.2.2.1 L r σ
    | _ => none
  | .tableswitch dflt lo _ offs => match st with
    | .int x :: r => am_sw x.toInt (jp ((e.1 : Int) + dflt).toNat L r σ) (fun o => jp ((e.1 : Int) + o).toNat L r σ) offs.toList lo
    | _ => none
  | .getfield _ => match st with
    | .ref a :: r => if e.2.2.2.2.2.2 % 2 = 0 then (am_geti σ a e.2.2.2.2.1 e.2.2.2.2.2.1).bind fun v => nx L (.int v :: r) σ else (am_getr σ a e.2.2.2.2.1 e.2.2.2.2.2.1).bind fun v => nx L (.ref v :: r) σ
    | _ => none
  | .putfield _ => match st with
    | .int v :: .ref a :: r => if e.2.2.2.2.2.2 % 3 = 0 then (am_put B σ a e.2.2.2.2.1 e.2.2.2.2.2.1 (.int v)).bind fun σ' => nx L r σ'
        else if e.2.2.2.2.2.2 % 3 = 2 then (if v = 0 ∨ v = 1 then (am_put B σ a e.2.2.2.2.1 e.2.2.2.2.2.1 (.int v)).bind fun σ' => nx L r σ' else none) else none
    | .ref v :: .ref a :: r => if e.2.2.2.2.2.2 % 3 = 1 then (am_put B σ a e.2.2.2.2.1 e.2.2.2.2.2.1 (.ref v)).bind fun σ' => nx L r σ' else none
    | _ => none
  | .getstatic _ => nx L (.ref (sa e.2.2.2.2.1) :: st) σ
  | .iaload => match st with
    | .int i :: .ref a :: r => (am_iald σ a i).bind fun v => nx L (.int v :: r) σ
    | _ => none
  | .iastore => match st with
    | .int x :: .int i :: .ref a :: r => (am_iast B σ a i x).bind fun σ' => nx L r σ'
    | _ => none
  | .arraylength => match st with
    | .ref a :: r => (am_alen σ a).bind fun v => nx L (.int v :: r) σ
    | _ => none
  | .newarray .int => match st with
    | .int n :: r => if n < 0 ∨ 100000 < n then none else nx L (.ref σ.1 :: r) (am_nwa σ n.toNatClampNeg)
    | _ => none
  | .new _ => nx L (.ref σ.1 :: st) (am_new σ e.2.2.2.2.1 (dfl e.2.2.2.2.1))
  | .invokespecial _ => if e.2.2.2.2.2.2 = 0 then (match st with
    | .ref _ :: r => if am_small r then nx L r σ else none
    | _ => none) else am_invI cl e.2.2.2.2.1 (e.2.2.2.2.2.1 + 1) st σ (nx L)
  | .invokevirtual _ => am_invV cl e.2.2.2.2.1 (e.2.2.2.2.2.1 + 1) (e.2.2.2.2.2.2 / 10 % 10) (e.2.2.2.2.2.2 / 100) st σ (nx L)
  | .invokestatic _ => if e.2.2.2.2.2.2 = 5 then (match st with
    | .int y :: .int x :: r => if am_small r then nx L (.int (if x < y then y else x) :: r) σ else none
    | _ => none) else if e.2.2.2.2.2.2 = 6 then (match st with
    | .int y :: .int x :: r => if am_small r then nx L (.int (if y < x then y else x) :: r) σ else none
    | _ => none) else if e.2.2.2.2.2.2 = 7 then (match st with
    | .int n :: .int dp :: .ref a :: .int sp :: .ref a0 :: r => if am_small r then (am_cpy B σ a0 sp a dp n).bind fun σ' => nx L r σ' else none
    | _ => none) else am_inv cl e.2.2.2.2.1 e.2.2.2.2.2.1 (e.2.2.2.2.2.2 / 10 % 10) st σ (nx L)
  | _ => none
/-- a stretch: from the row at the head of cur on, up to the first row that stops -/
def am_blk (B : Nat) (sa : Nat → Nat) (dfl : Nat → List Value) (cl : am_F) (code : List am_I) : Nat → List am_I → am_L → List Value → am_S → Option am_O
  | 0, _, _, _, _ => none
  | _ + 1, [], _, _, _ => none
  | g + 1, e :: rest, L, st, σ => am_step B sa dfl cl e L st σ
      (fun L st σ => match rest with
        | [] => none
        | e' :: _ => if e'.2.2.2.1 = 0 then am_blk B sa dfl cl code g rest L st σ else some (e'.1, L, st, σ))
      (fun pc L st σ => match code.dropWhile (fun e' => e'.1 != pc) with
        | [] => none
        | e' :: r => if e'.2.2.2.1 = 0 then am_blk B sa dfl cl code g (e' :: r) L st σ else some (e'.1, L, st, σ))
/-- stretch after stretch, up to an end: its pc, stack, state -/
def am_exec (B : Nat) (sa : Nat → Nat) (dfl : Nat → List Value) (cl : am_F) (code : List am_I) : Nat → Nat → am_L → am_S → Option (Nat × List Value × am_S)
  | 0, _, _, _ => none
  | f + 1, pc, L, σ => (am_blk B sa dfl cl code code.length (code.dropWhile (fun e' => e'.1 != pc)) L [] σ).bind fun o =>
      match code.dropWhile (fun e' => e'.1 != o.1) with
      | [] => none
      | e' :: _ => if e'.2.2.2.1 = 1 then some (o.1, o.2.2.1, o.2.2.2) else match o.2.2.1 with
        | [] => (am_keep o.2.1 0 (e'.2.2.2.1 - 2)).bind fun L' => am_exec B sa dfl cl code f o.1 L' o.2.2.2
        | _ => none
/-- an end that returns: the answer -/
def am_end (code : List am_I) (o : Nat × List Value × am_S) : Option (Option Value × am_S) := match code.dropWhile (fun e' => e'.1 != o.1) with
  | [] => none
  | e' :: _ => match e'.2.1, o.2.1 with
    | .ireturn, [.int v] => if e'.2.2.2.2.1 = 0 ∨ v = 0 ∨ v = 1 then some (some (.int v), o.2.2) else none
    | .areturn, [.ref a] => some (some (.ref a), o.2.2)
    | .areturn, [.null] => some (some .null, o.2.2)
    | .return_, [] => some (none, o.2.2)
    | _, _ => none
/-- a method of the table at its arguments: d calls deep at most, f stretches long at most in each -/
def am_call (B : Nat) (sa : Nat → Nat) (dfl : Nat → List Value) (tb : Nat → Option am_M) (f : Nat) : Nat → am_F
  | 0, _, _, _ => none
  | d + 1, mi, as, σ => (tb mi).bind fun M => if M.2.2.1 < (lg_sl as).length then none else (am_exec B sa dfl (am_call B sa dfl tb f d) M.2.2.2.2 f 0 (lv_args 0 as) σ).bind fun o => am_end M.2.2.2.2 o
end
section
/-! what the abstract machine's states are in the machine's heap -/
def am_at (D : va_G) (B : Nat) (U : State) (a : Nat) (c : am_C) (H : Heap) : Prop := match c with
  | .inl x => (B ≤ a ∧ ∃ cA : ClassId, ArrOfT U cA .int ∧ H[a]? = some (vp_cell cA (x.1, .inl x.2))) ∨
      (a < B ∧ ∃ cell : Cell, H[a]? = some cell ∧ U.isArrayOf cell .int ∧ cell.vm ≠ .unknown ∧ x.1 ≤ cell.slots.size ∧ cell.slots.size.toInt32 = Int32.ofNat x.1 ∧ ∀ j, j < x.1 → cell.slots[j]? = some (.int (x.2 j)))
  | .inr o => ∃ r : vw_C, vwCl[o.1]? = some r ∧ o.2.length = r.2.2 ∧ t_OB a (D.1 o.1) r.2.2 (D.2 o.1) H (vp_V o.2)
theorem am_at.kept {D : va_G} {B a : Nat} {U : State} {c : am_C} {H H1 : Heap} (h : am_at D B U a c H) (hq : H1[a]? = H[a]?) : am_at D B U a c H1 := by
  cases c with
  | inl x =>
    rcases h with ⟨h1, cA, h2, h3⟩ | ⟨h1, cell, h2, h3⟩
    · exact Or.inl ⟨h1, cA, h2, by rw [hq]; exact h3⟩
    · exact Or.inr ⟨h1, cell, by rw [hq]; exact h2, h3⟩
  | inr o =>
    obtain ⟨r, h1, h2, cell, h3, h4⟩ := h
    exact ⟨r, h1, h2, cell, by rw [hq]; exact h3, h4⟩
theorem am_at.moved {D : va_G} {B a : Nat} {u U : State} {c : am_C} {H : Heap} (hvm : u.vm.Alike U.vm) (h : am_at D B u a c H) : am_at D B U a c H := by
  cases c with
  | inl x =>
    rcases h with ⟨h1, cA, h2, h3⟩ | ⟨h1, cell, h2, h3, h4⟩
    · exact Or.inl ⟨h1, cA, arrOfT_moved hvm h2, h3⟩
    · exact Or.inr ⟨h1, cell, h2, State.isArrayOf_alike hvm h3, h4⟩
  | inr o => exact h
theorem am_at.lt {D : va_G} {B a : Nat} {U : State} {c : am_C} {H : Heap} (h : am_at D B U a c H) : a < H.size := by
  cases c with
  | inl x =>
    rcases h with ⟨h1, cA, h2, h3⟩ | ⟨h1, cell, h2, h3, h4⟩
    · exact (Array.getElem?_eq_some_iff.mp h3).1
    · exact (Array.getElem?_eq_some_iff.mp h2).1
  | inr o =>
    obtain ⟨r, h1, h2, cell, h3, h4⟩ := h
    exact (Array.getElem?_eq_some_iff.mp h3).1
def am_R (D : va_G) (B : Nat) (U : State) (σ : am_S) (H : Heap) : Prop := H.size = σ.1 ∧ B ≤ σ.1 ∧ ∀ (a : Nat) (c : am_C), σ.2.1 a = some c → am_at D B U a c H
theorem am_R.moved {D : va_G} {B : Nat} {u U : State} {σ : am_S} {H : Heap} (hvm : u.vm.Alike U.vm) (h : am_R D B u σ H) : am_R D B U σ H := ⟨h.1, h.2.1, fun a c hc => (h.2.2 a c hc).moved hvm⟩
theorem am_R.set {D : va_G} {B a n : Nat} {U : State} {σ : am_S} {H H1 : Heap} {c : am_C} (h : am_R D B U σ H) (z : H1.size = H.size) (oq : ∀ q : Nat, q ≠ a → H1[q]? = H[q]?) (ha : am_at D B U a c H1) : am_R D B U (σ.1, am_upd σ.2.1 a c, n) H1 := by
  refine ⟨z.trans h.1, h.2.1, fun q x hx => ?_⟩
  by_cases e : q = a
  · subst e
    simp only [am_upd, if_true] at hx
    cases hx
    exact ha
  · simp only [am_upd, if_neg e] at hx
    exact (h.2.2 q x hx).kept (oq q e)
theorem am_R.push {D : va_G} {B n : Nat} {U : State} {σ : am_S} {H H1 : Heap} {c : am_C} (h : am_R D B U σ H) (z : H1.size = H.size + 1) (oq : ∀ q : Nat, q < H.size → H1[q]? = H[q]?) (ha : am_at D B U H.size c H1) : am_R D B U (σ.1 + 1, am_upd σ.2.1 σ.1 c, n) H1 := by
  refine ⟨by rw [z, h.1], Nat.le_succ_of_le h.2.1, fun q x hx => ?_⟩
  by_cases e : q = σ.1
  · subst e
    simp only [am_upd, if_true] at hx
    cases hx
    rw [← h.1]
    exact ha
  · simp only [am_upd, if_neg e] at hx
    have h1 := h.2.2 q x hx
    exact h1.kept (oq q h1.lt)
/-- what a method takes as given beside its cells -/
def am_K (D : va_G) (B : Nat) (sa : Nat → Nat) (U : State) : Prop := va_K D vwCl [] U ∧ (∀ q ∈ am_NF, va_Nw (.fieldLinkNest q.1 q.2.1 q.2.2.1 q.2.2.2.1 q.2.2.2.2.1 q.2.2.2.2.2) U) ∧ (∀ q ∈ am_NM, va_Nw (.methodLinkNest q.1 q.2.1 q.2.2.1 q.2.2.2) U) ∧ ∀ (j : Nat) (q : String × String × String), am_SF j = some q → va_Z q.1 q.2.1 q.2.2 (.ref (sa j)) (fun a => B ≤ a) U U.heap
theorem am_K.same {D : va_G} {B : Nat} {sa : Nat → Nat} {u U : State} (h : u.vm = U.vm) (hh : u.heap = U.heap) (hK : am_K D B sa u) : am_K D B sa U := by
  have hal : u.vm.Alike U.vm := h ▸ Vm.Alike.refl _
  refine ⟨hK.1.moved hal, fun q hq => va_Nw.same rfl h (hK.2.1 q hq), fun q hq => va_Nw.same rfl h (hK.2.2.1 q hq), fun j q hj => ?_⟩
  have := (hK.2.2.2 j q hj).moved hal
  rw [hh] at this
  exact this
theorem am_K.warm {D : va_G} {B : Nat} {sa : Nat → Nat} {s U : State} {H : Heap} {locs : List Loc} (hU : U.heap = H) (hW : s.WarmedH U.vm) (hS : va_S (fun q => B ≤ q) s.heap H locs) (hK : am_K D B sa s) : am_K D B sa U := by
  refine ⟨hK.1.moved hW.alike, fun q hq => va_Nw.warmF hW (hK.2.1 q hq), fun q hq => va_Nw.warmM hW (hK.2.2.1 q hq), fun j q hj => ?_⟩
  rw [hU]
  exact ((hK.2.2.2 j q hj).moved hW.alike).kept hS.2.1
def am_Pre (D : va_G) (B : Nat) (sa : Nat → Nat) (σ : am_S) (U : State) : Prop := am_R D B U σ U.heap ∧ am_K D B sa U
def am_Post (D : va_G) (B : Nat) (σ : am_S) (v : Option Value) : Array Value → State → Outcome → State → Prop := fun _ st oc t => oc = .returned v ∧ am_R D B t σ t.heap ∧ va_F (fun q => B ≤ q) st t
theorem am_blind {D : va_G} {B : Nat} {sa : Nat → Nat} {σ : am_S} {as : List Value} : FrameBlind (va_Pc as (am_Pre D B sa σ)) := by
  intro a U g mk h
  exact ⟨h.1, am_R.moved (Vm.Alike.refl U.vm) h.2.1, am_K.same (u := U) rfl rfl h.2.2⟩
theorem am_pre_at {D : va_G} {B : Nat} {sa : Nat → Nat} {σ : am_S} {s U : State} {H : Heap} {locs : List Loc} (hR : am_R D B s σ H) (hK : am_K D B sa s) (hS : va_S (fun q => B ≤ q) s.heap H locs) (hU : U.heap = H) (hW : s.WarmedH U.vm) : am_Pre D B sa σ U := ⟨by rw [hU]; exact hR.moved hW.alike, hK.warm hU hW hS⟩
theorem am_cls {x : Nat} {q : vw_C} (h : vwCl[x]? = some q) : (∀ w ∈ u_ws q.1 q.2.1 q.2.2, w ∈ am_W) ∧ (∃ ty : Nat → FieldType, ∀ k, k < q.2.2 → parseFieldDescriptor (q.2.1 k).2.2.1 = some (ty k)) ∧ (∀ a, a < q.2.2 → ∀ b, b < q.2.2 → a ≠ b → (q.2.1 a).2.1 ≠ (q.2.1 b).2.1) := by
  match x, h with
  | 0, h => cases h; exact ⟨am_in0, ⟨_, tyX0_ok⟩, nmX0⟩
  | 1, h => cases h; exact ⟨am_in1, ⟨_, tyX1_ok⟩, nmX1⟩
  | 2, h => cases h; exact ⟨am_in2, ⟨_, tyX2_ok⟩, nmX2⟩
  | 3, h => cases h; exact ⟨am_in3, ⟨_, tyX3_ok⟩, nmX3⟩
  | 4, h => cases h; exact ⟨am_in4, ⟨_, tyX4_ok⟩, nmX4⟩
  | 5, h => cases h; exact ⟨am_in5, ⟨_, tyX5_ok⟩, nmX5⟩
  | 6, h => cases h; exact ⟨am_in6, ⟨_, tyX6_ok⟩, nmX6⟩
  | 7, h => cases h; exact ⟨am_in7, ⟨_, tyX7_ok⟩, nmX7⟩
  | 8, h => cases h; exact ⟨am_in8, ⟨_, tyX8_ok⟩, nmX8⟩
  | 9, h => cases h; exact ⟨am_in9, ⟨_, tyX9_ok⟩, nmX9⟩
  | k + 10, h => simp [vwCl] at h
section AMR
variable {p : Program} {l : Launch} {e : Env} {R : Room} {s : State} {m : MethodId} {args : Array Value} {below : List Frame} {meth : Method} {c : Code} {H : Heap} {locs : List Loc} {cells slots : Nat} {Q : State → Prop}
variable {cc : ByteArray} {pc : Nat} {ls : Array Slot} {rest : List Value} {D : va_G} {B : Nat} {a : Nat} {σ : am_S} {own : String}
theorem am_objat (hR : am_R D B s σ H) {ci : Nat} {fs : List Value} (ho : am_obj σ a ci = some fs) : ∃ r : vw_C, vwCl[ci]? = some r ∧ fs.length = r.2.2 ∧ t_OB a (D.1 ci) r.2.2 (D.2 ci) H (vp_V fs) := by
  unfold am_obj at ho
  split at ho
  · rename_i x hx
    split at ho
    · rename_i hc
      cases ho
      have := hR.2.2 a _ hx
      rw [← hc]
      exact this
    · cases ho
  · cases ho
theorem am_arrat (hR : am_R D B s σ H) {x : Nat × (Nat → Int32)} (ho : am_arr σ a = some x) : am_at D B s a (.inl x) H := by
  unfold am_arr at ho
  split at ho
  · rename_i y hy
    cases ho
    exact hR.2.2 a _ hy
  · cases ho
/-- any field of an object -/
theorem am_w_get (hexec : p.tables.exec = Jvm.exec) (hb : c.code = cc) (hts : ∀ w ∈ am_W, w.before args s = true) (hown : s.vm.findClass own = some m.cls) (hK : va_K D vwCl [] s) (hR : am_R D B s σ H) {ci k index : Nat} {fs : List Value} {v : Value} {q : vw_C} (ho : am_obj σ a ci = some fs) (hv : fs[k]? = some v) (hc : vwCl[ci]? = some q) (hk : k < q.2.2)
    (hlink : Cond.fieldLink own index (q.2.1 k).1 (q.2.1 k).2.1 (q.2.1 k).2.2.1 ∈ am_W ∨ ∃ host, va_Nw (.fieldLinkNest own index (q.2.1 k).1 (q.2.1 k).2.1 (q.2.1 k).2.2.1 host) s) (hdg : decode cc pc = .ok (.getfield index, 3))
    (kk : W p l e R s m args below meth c H locs cells slots Q (F0 m (pc + 3) ls (v :: rest))) : W p l e R s m args below meth c H locs cells slots Q (F0 m pc ls (.ref a :: rest)) := by
  obtain ⟨r, h1, h2, cell, q1, q2, q3, q4⟩ := am_objat hR ho
  cases h1.symm.trans hc
  obtain ⟨hin, -, -⟩ := am_cls hc
  obtain ⟨hS, hfc, kC, hkC, hkind⟩ := hK.1 ci _ hc
  obtain ⟨cf, kf, fi, f, hi, hsl⟩ := hS k hk
  have hval : cell.slots[f.slot]? = some v := by
    rw [hsl, q4 k hk]
    simp [vp_V, hv]
  rcases hlink with hl | ⟨host, hl⟩
  · exact W.getf hexec hb hown (hts _ hl) hi (u_facts hfc hkC (u_lays hts hin hk) hi).1 q1 (by rw [q3]; exact fun h => by cases h) hval rfl rfl hdg kk
  · exact va_Wgetf hexec hb hown (va_Nw.use rfl hl) hi (u_facts hfc hkC (u_lays hts hin hk) hi).1 q1 (by rw [q3]; exact fun h => by cases h) hval rfl rfl hdg kk
/-- a store into a field -/
theorem am_w_put (hexec : p.tables.exec = Jvm.exec) (hb : c.code = cc) (hts : ∀ w ∈ am_W, w.before args s = true) (hown : s.vm.findClass own = some m.cls) (hK : va_K D vwCl [] s) (hR : am_R D B s σ H) (hS0 : va_S (fun q => B ≤ q) s.heap H locs) {ci k index : Nat} {fs : List Value} {v : Value} {q : vw_C} {ty : FieldType} (ho : am_obj σ a ci = some fs) (hBa : B ≤ a) (hk : k < fs.length) (hc : vwCl[ci]? = some q)
    (hd : parseFieldDescriptor (q.2.1 k).2.2.1 = some ty) (hn : narrow ty v = v) (hfit : fits ty v = true)
    (hlink : ((q.2.1 k).2.2.2 = false ∧ (Cond.fieldLink own index (q.2.1 k).1 (q.2.1 k).2.1 (q.2.1 k).2.2.1 ∈ am_W ∨ ∃ host, va_Nw (.fieldLinkNest own index (q.2.1 k).1 (q.2.1 k).2.1 (q.2.1 k).2.2.1 host) s)) ∨ ((q.2.1 k).2.2.2 = true ∧ meth.name = "<init>" ∧ (q.2.1 k).1 = own ∧ Cond.fieldLink own index (q.2.1 k).1 (q.2.1 k).2.1 (q.2.1 k).2.2.1 ∈ am_W))
    (hdg : decode cc pc = .ok (.putfield index, 3))
    (kk : ∀ (H1 : Heap) (locs1 : List Loc), am_R D B s (σ.1, am_upd σ.2.1 a (.inr (ci, fs.set k v)), σ.2.2) H1 → va_S (fun q => B ≤ q) s.heap H1 locs1 → W p l e R s m args below meth c H1 locs1 cells slots Q (F0 m (pc + 3) ls rest)) : W p l e R s m args below meth c H locs cells slots Q (F0 m pc ls (v :: .ref a :: rest)) := by
  obtain ⟨r, h1, h2, cell, q1, q2, q3, q4⟩ := am_objat hR ho
  cases h1.symm.trans hc
  obtain ⟨hin, ⟨ty0, hty⟩, hnm⟩ := am_cls hc
  have hkN : k < q.2.2 := by rw [← h2]; exact hk
  have hap := va_apart (own := own) (D := D) hts hin ty0 hty hnm hK hc
  obtain ⟨hS, hfc, kC, hkC, hkind⟩ := hK.1 ci _ hc
  obtain ⟨cf, kf, fi, f, hi, hsl⟩ := hS k hkN
  have hlay := hts _ (hin _ (u_in_lay hkN))
  unfold u_lay at hlay
  have hst := (u_facts hfc hkC (u_lays hts hin hkN) hi).1
  have fin : ∀ (H' : Heap), H'[a]? = some (cell.setSlot f.slot v) → H'.size = H.size → (∀ q : Nat, q ≠ a → H'[q]? = H[q]?) → W p l e R s m args below meth c H' (locs ++ [⟨a, f.slot⟩]) cells slots Q (F0 m (pc + 3) ls rest) := by
    intro H' e1 e2 e3
    rw [hsl] at e1 ⊢
    refine kk H' _ (hR.set e2 e3 ⟨_, hc, by rw [List.length_set]; exact h2, ?_⟩) (hS0.put e2 e3 hBa)
    exact t_OB.to (V := updV (vp_V fs) k v) ⟨_, e1, q2, q3, t_set q4 hap hkN v⟩ (fun j _ => vp_updV_set hk v j)
  rcases hlink with ⟨hf, hl⟩ | ⟨hf, hin2, hdecl, hl⟩
  · rw [if_neg (by rw [hf]; decide)] at hlay
    have h6 := u_store hfc hkC hkind hlay hi hd hn hfit
    rcases hl with hl | ⟨host, hl⟩
    · exact W.putK hexec hb (f := f) ⟨hown, hts _ hl, ⟨_, _, _, hi⟩, hst⟩ (by rw [q2]; exact h6) q1 q3 (by rw [hsl]; exact k2_hasslot (q4 k hkN)) rfl rfl hdg fin
    · exact va_WputK hexec hb hown (va_Nw.use rfl hl) hi hst (by rw [q2]; exact h6) q1 q3 (by rw [hsl]; exact k2_hasslot (q4 k hkN)) rfl rfl hdg fin
  · rw [if_pos hf] at hlay
    have hcf : m.cls = cf := by
      obtain ⟨_, _, c', _, _, _, -, -, hf', -, -, -, hown2, -⟩ := Cond.laysFinal_spec hlay
      have e1 : c' = cf := by have := hi.symm.trans hf'; simp at this; exact this.1.symm
      rw [hdecl] at hown2
      rw [← e1]; exact Option.some.inj (hown.symm.trans hown2)
    have h6 := u_fits hfc hkC hkind (Or.inr hlay) hi hd hn hfit
    exact W.putFinK hexec hb hown (hts _ hl) hi hst hcf hin2 (by rw [q2]; exact h6) q1 q3 (by rw [hsl]; exact k2_hasslot (q4 k hkN)) rfl rfl hdg fin
theorem am_w_iald (hexec : p.tables.exec = Jvm.exec) (hb : c.code = cc) (hR : am_R D B s σ H) {x : Nat × (Nat → Int32)} (ho : am_arr σ a = some x) {i : Int32} (hin : ¬ (i < 0 ∨ x.1 ≤ i.toNatClampNeg)) (hdg : decode cc pc = .ok (.iaload, 1))
    (kk : W p l e R s m args below meth c H locs cells slots Q (F0 m (pc + 1) ls (.int (x.2 i.toNatClampNeg) :: rest))) : W p l e R s m args below meth c H locs cells slots Q (F0 m pc ls (.int i :: .ref a :: rest)) := by
  have hlt : i.toNatClampNeg < x.1 := Nat.not_le.mp fun q => hin (Or.inr q)
  rcases am_arrat hR ho with ⟨h1, cA, h2, h3⟩ | ⟨h1, cell, h2, h3, h4, h5, h6, h7⟩
  · exact W.iald (v := .int (x.2 i.toNatClampNeg)) hexec hb h3 (h2 x.1 (fun j => .int (x.2 j))) (fun q => by cases q) (by show ¬ (i < 0 ∨ (arrV _ _ _).slots.size ≤ _); rw [arrV_size]; exact hin) (by show (arrV _ _ _).slots[_]? = _; rw [arrV_read _ _ hlt]) rfl rfl hdg kk
  · exact W.iald (v := .int (x.2 i.toNatClampNeg)) hexec hb h2 h3 h4 (fun h => h.elim (fun z => hin (Or.inl z)) (fun z => by omega)) (h7 _ hlt) rfl rfl hdg kk
theorem am_w_alen (hexec : p.tables.exec = Jvm.exec) (hb : c.code = cc) (hR : am_R D B s σ H) {x : Nat × (Nat → Int32)} (ho : am_arr σ a = some x) (hdg : decode cc pc = .ok (.arraylength, 1))
    (kk : W p l e R s m args below meth c H locs cells slots Q (F0 m (pc + 1) ls (.int (Int32.ofNat x.1) :: rest))) : W p l e R s m args below meth c H locs cells slots Q (F0 m pc ls (.ref a :: rest)) := by
  rcases am_arrat hR ho with ⟨h1, cA, h2, h3⟩ | ⟨h1, cell, h2, h3, h4, h5, h6, h7⟩
  · exact W.alen (n := Int32.ofNat x.1) hexec hb h3 (h2 x.1 (fun j => .int (x.2 j))) (by rw [vp_cell_i, arrV_size] <;> rfl) rfl rfl hdg kk
  · exact W.alen (n := Int32.ofNat x.1) hexec hb h2 h3 h6 rfl rfl hdg kk
theorem am_w_iast (hexec : p.tables.exec = Jvm.exec) (hb : c.code = cc) (hR : am_R D B s σ H) (hS : va_S (fun q => B ≤ q) s.heap H locs) {y : Nat × (Nat → Int32)} (ho : am_arr σ a = some y) (hBa : B ≤ a) {i x : Int32} (hin : ¬ (i < 0 ∨ y.1 ≤ i.toNatClampNeg)) (hdg : decode cc pc = .ok (.iastore, 1))
    (kk : ∀ (H1 : Heap) (locs1 : List Loc), am_R D B s (σ.1, am_upd σ.2.1 a (.inl (y.1, upd y.2 i.toNatClampNeg x)), σ.2.2) H1 → va_S (fun q => B ≤ q) s.heap H1 locs1 → W p l e R s m args below meth c H1 locs1 cells slots Q (F0 m (pc + 1) ls rest)) : W p l e R s m args below meth c H locs cells slots Q (F0 m pc ls (.int x :: .int i :: .ref a :: rest)) := by
  rcases am_arrat hR ho with ⟨h1, cA, h2, h3⟩ | ⟨h1, -⟩
  · refine W.iast hexec hb h3 (h2 y.1 (fun j => .int (y.2 j))) (fun q => by cases q) (by show ¬ (i < 0 ∨ (arrV _ _ _).slots.size ≤ _); rw [arrV_size]; exact hin) rfl rfl hdg fun H1 e z oq => ?_
    refine kk H1 _ (hR.set z oq (Or.inl ⟨h1, cA, h2, ?_⟩)) (hS.put z oq hBa)
    rw [e]
    rw [vp_cell_i, vp_cell_i, arrV_store]
    congr 2
    funext q
    by_cases hq : q = i.toNatClampNeg
    · subst hq
      simp [updV, upd]
    · simp [updV, upd, hq]
  · omega
theorem am_w_newa (hexec : p.tables.exec = Jvm.exec) (hb : c.code = cc) (hts : ∀ w ∈ am_W, w.before args s = true) (harr : Cond.arrayClass .int ∈ am_W) (hR : am_R D B s σ H) (hS : va_S (fun q => B ≤ q) s.heap H locs) {n : Int32} (hn : ¬ n < 0) (hn2 : n.toNatClampNeg ≤ 100000) (hcells : cells + 1 ≤ R.cells) (hslots : slots + n.toNatClampNeg ≤ R.slots) (hdg : decode cc pc = .ok (.newarray .int, 2))
    (kk : ∀ (H1 : Heap) (locs1 : List Loc), am_R D B s (am_nwa σ n.toNatClampNeg) H1 → va_S (fun q => B ≤ q) s.heap H1 locs1 → W p l e R s m args below meth c H1 locs1 (cells + 1) (slots + n.toNatClampNeg) Q (F0 m (pc + 2) ls (.ref σ.1 :: rest))) : W p l e R s m args below meth c H locs cells slots Q (F0 m pc ls (.int n :: rest)) := by
  refine va_newaK hexec hb (atype := .int) (hts _ harr) rfl hdg rfl hn rfl (by show n.toNatClampNeg * componentBytes .int ≤ 536870912; simp [componentBytes]; omega) hcells hslots hR.1 fun H1 cA e1 z1 o1 hAr hNm => ?_
  refine kk H1 locs (hR.push (by rw [z1, hR.1]) (fun q hq => o1 q (by rw [← hR.1]; exact hq)) (Or.inl ⟨by rw [hR.1]; exact hR.2.1, cA, hAr, by rw [hR.1]; exact e1⟩)) ⟨by have := hS.1; rw [hR.1] at this; omega, fun x h1 h2 => (o1 x (by have := hS.1; rw [hR.1] at this; omega)).trans (hS.2.1 x h1 h2), hS.2.2⟩
theorem am_w_new (hexec : p.tables.exec = Jvm.exec) (hb : c.code = cc) (hts : ∀ w ∈ am_W, w.before args s = true) (hown : s.vm.findClass own = some m.cls) (hK : va_K D vwCl [] s) (hR : am_R D B s σ H) (hS : va_S (fun q => B ≤ q) s.heap H locs) {ci index : Nat} {q : vw_C} {fs : List Value} (hc : vwCl[ci]? = some q) (hcl : Cond.classLink own index q.1 ∈ am_W) (hinst : Cond.instantiable q.1 q.2.2 ∈ am_W) (hini : Cond.initialized q.1 ∈ am_W)
    (hlen : fs.length = q.2.2) (hfs : ∀ j, j < q.2.2 → (parseFieldDescriptor (q.2.1 j).2.2.1).map defaultValue = some (vp_V fs j)) (hcells : cells + 1 ≤ R.cells) (hslots : slots + fs.length ≤ R.slots) (hdg : decode cc pc = .ok (.new index, 3))
    (kk : ∀ (H1 : Heap) (locs1 : List Loc), am_R D B s (am_new σ ci fs) H1 → va_S (fun q => B ≤ q) s.heap H1 locs1 → W p l e R s m args below meth c H1 locs1 (cells + 1) (slots + fs.length) Q (F0 m (pc + 3) ls (.ref σ.1 :: rest))) : W p l e R s m args below meth c H locs cells slots Q (F0 m pc ls rest) := by
  have hKn := hK.1 ci _ hc
  obtain ⟨hin, ⟨ty, hty⟩, -⟩ := am_cls hc
  rw [hlen] at hslots kk
  refine W.newcK hexec hb hown (hts _ hcl) (hts _ hinst) (hts _ hini) rfl hdg hcells hslots hKn.2.1 hR.1 fun H1 kC hkC e1 z1 o1 => ?_
  refine kk H1 locs (hR.push (by rw [z1, hR.1]) (fun q hq => o1 q (by rw [← hR.1]; exact hq)) ⟨q, hc, hlen, ?_⟩) ⟨by have := hS.1; rw [hR.1] at this; omega, fun x h1 h2 => (o1 x (by have := hS.1; rw [hR.1] at this; omega)).trans (hS.2.1 x h1 h2), hS.2.2⟩
  rw [hR.1]
  refine (u_born ty hts hin hKn hkC e1 hty).to fun j hj => ?_
  have := hfs j hj
  rw [hty j hj] at this
  exact Option.some.inj this
end AMR
end
section
/-! arraycopy, and calls -/
section AMC
variable {p : Program} {l : Launch} {e : Env} {R : Room} {s : State} {m : MethodId} {args : Array Value} {below : List Frame} {meth : Method} {c : Code} {H : Heap} {locs : List Loc} {cells slots : Nat} {Q : State → Prop}
variable {cc : ByteArray} {pc : Nat} {ls : Array Slot} {rest st0 : List Value} {D : va_G} {B : Nat} {sa : Nat → Nat} {a a0 : Nat} {σ σ' : am_S} {own : String}
theorem am_w_cpy (hexec : p.tables.exec = Jvm.exec) (hb : c.code = cc) (hml : c.maxLocals = ls.size) {index : Nat} (hown : s.vm.findClass own = some m.cls) (hts : ∀ w ∈ am_W, w.before args s = true) (hlink : Cond.methodLink own index arraycopyName ∈ am_W) (hnat : Cond.native arraycopyName ∈ am_W) (hstat : Cond.static arraycopyName ∈ am_W) (hini : Cond.initialized "java/lang/System" ∈ am_W)
    (hR : am_R D B s σ H) (hS : va_S (fun q => B ≤ q) s.heap H locs) {x y : Nat × (Nat → Int32)} (ho : am_arr σ a0 = some x) (ho2 : am_arr σ a = some y) (hB0 : B ≤ a0) (hBa : B ≤ a)
    {sp dp n : Int32} (h1 : ¬ sp < 0) (h2 : ¬ dp < 0) (h3 : ¬ n < 0) (h4 : sp.toNatClampNeg + n.toNatClampNeg ≤ x.1) (h5 : dp.toNatClampNeg + n.toNatClampNeg ≤ y.1)
    (hframes : 1 ≤ R.frames) (hlocals : (rest.map fun v => v.category).sum + (nativeFrameWords "java/lang/System" "arraycopy" 5 + 11) ≤ R.locals) (hdg : decode cc pc = .ok (.invokestatic index, 3))
    (kk : ∀ (H1 : Heap) (locs1 : List Loc), am_R D B s (σ.1, am_upd σ.2.1 a (.inl (y.1, va_cpy x.2 y.2 sp.toNatClampNeg dp.toNatClampNeg n.toNatClampNeg)), σ.2.2) H1 → va_S (fun q => B ≤ q) s.heap H1 locs1 → W p l e R s m args below meth c H1 locs1 cells slots Q (F0 m (pc + 3) ls rest)) : W p l e R s m args below meth c H locs cells slots Q (F0 m pc ls (.int n :: .int dp :: .ref a :: .int sp :: .ref a0 :: rest)) := by
  have nn : ∀ z : Int32, ¬ z < 0 → z.toInt = (z.toNatClampNeg : Int) := by
    intro z hz
    have hz0 : (0 : Int) ≤ z.toInt := by
      have := Int32.not_lt.mp hz
      simpa using Int32.le_iff_toInt_le.mp this
    show z.toInt = ((z.toInt.toNat : Nat) : Int)
    omega
  obtain ⟨-, c0, g0, hc0⟩ | ⟨g0, -⟩ := am_arrat hR ho
  · obtain ⟨-, c1, g1, hc1⟩ | ⟨g1, -⟩ := am_arrat hR ho2
    · obtain ⟨n0, f⟩ := x
      obtain ⟨n1, g⟩ := y
      intro T hT X
      obtain ⟨-, k0, hk0, cm0, hkk0⟩ := g0 n0 (fun j => .int (f j))
      obtain ⟨-, k1, hk1, cm1, hkk1⟩ := g1 n1 (fun j => .int (g j))
      obtain ⟨vm', X', step⟩ := X.arraycopy hexec hown (hts _ hlink) (hts _ hnat) (hts _ hstat) (hts _ hini) (src := a0) (dst := a) (cs := vp_cell c0 (n0, .inl f)) (cd := vp_cell c1 (n1, .inl g)) (srcPos := sp) (destPos := dp) (n := n) (by rw [hT]; exact hc0) (by rw [hT]; exact hc1)
        (fun _ h => by cases h) (fun _ h => by cases h) (fun h => by cases h) (fun h => by cases h) hk0 hk1 hkk0 hkk1 (by simp [refKind]) h1 h2 h3
        (by rw [nn sp h1, nn n h3]; show ¬ _ > ((arrV c0 n0 (fun j => .int (f j))).slots.size : Int); rw [arrV_size]; dsimp only at h4; omega)
        (by rw [nn dp h2, nn n h3]; show ¬ _ > ((arrV c1 n1 (fun j => .int (g j))).slots.size : Int); rw [arrV_size]; dsimp only at h5; omega)
        (fun vm₁ _ i hi => by
          have e : (vp_cell c0 (n0, .inl f)).slots.getD (sp.toNatClampNeg + i) .null = .int (f (sp.toNatClampNeg + i)) := by
            show (arrV c0 n0 (fun j => .int (f j))).slots.getD _ _ = _
            rw [Array.getD_eq_getD_getElem?, arrV_read _ _ (by dsimp only at h4; omega)]
            rfl
          refine ⟨?_, ?_⟩
          · rw [e]
            rfl
          · rw [e]
            exact trivial)
        (g := F0 m pc ls (.int n :: .int dp :: .ref a :: .int sp :: .ref a0 :: rest)) rfl (by rw [hml]) (rest := rest) rfl (by rw [hb]; exact hdg) hframes (by show 2 * 0 + _ + _ ≤ _; omega)
      have e1 : copied (vp_cell c0 (n0, .inl f)) (vp_cell c1 (n1, .inl g)) sp dp n = vp_cell c1 (n1, .inl (va_cpy f g sp.toNatClampNeg dp.toNatClampNeg n.toNatClampNeg)) := va_copied (fun z => .int z) c0 c1 f g h4
      rw [e1] at X' step
      have hl : a < H.size := (Array.getElem?_eq_some_iff.mp hc1).1
      have hheap : ((T.setVm vm').setCell a (vp_cell c1 (n1, .inl (va_cpy f g sp.toNatClampNeg dp.toNatClampNeg n.toNatClampNeg)))).heap = H.setIfInBounds a (vp_cell c1 (n1, .inl (va_cpy f g sp.toNatClampNeg dp.toNatClampNeg n.toNatClampNeg))) := by rw [← hT]; rfl
      have oq : ∀ q : Nat, q ≠ a → (H.setIfInBounds a (vp_cell c1 (n1, .inl (va_cpy f g sp.toNatClampNeg dp.toNatClampNeg n.toNatClampNeg))))[q]? = H[q]? := fun q hq => by simp [Array.getElem?_setIfInBounds, Ne.symm hq]
      obtain ⟨t, a1, b1⟩ := kk _ _ (hR.set (by simp) oq (Or.inl ⟨hBa, c1, g1, by simp [Array.getElem?_setIfInBounds, hl]⟩)) ⟨by simp; exact hS.1, fun q g1 g2 => by
          rw [oq q (fun e => g2 (by rw [e]; exact hBa))]
          exact hS.2.1 q g1 g2, fun q hq => by
          rcases List.mem_append.mp hq with h | h
          · exact hS.2.2 q h
          · obtain ⟨z, -, hz⟩ := List.mem_map.mp h
            rw [← hz]
            exact hBa⟩ _ hheap X'
      exact ⟨t, step t a1, b1⟩
    · omega
  · omega
/-- behind a call -/
theorem am_w_run {mc ms : Nat} {ar : Array Value} {v : Option Value} (hr : va_Run p l e R s m args below meth c H locs cells slots mc ms (F0 m pc ls st0) rest (am_Post D B σ' v ar) (fun q => B ≤ q)) (hS : va_S (fun q => B ≤ q) s.heap H locs)
    (kk : ∀ (H1 : Heap) (locs1 : List Loc), am_R D B s σ' H1 → va_S (fun q => B ≤ q) s.heap H1 locs1 → W p l e R s m args below meth c H1 locs1 (cells + mc) (slots + ms) Q (F0 m (pc + 3) ls (v.toList ++ rest))) : W p l e R s m args below meth c H locs cells slots Q (F0 m pc ls st0) := by
  intro T hT X
  obtain ⟨v', st₀, t, T', L, h0, X', hL, e1, e2, ⟨ho, hR1, hz, hk⟩, st⟩ := hr T hT X
  cases ho
  rw [h0] at hz hk
  have hal : s.vm.Alike t.vm := by rw [← e2]; exact X'.warmed.alike
  obtain ⟨t2, a1, b1⟩ := kk T'.heap (locs ++ L) (by rw [e1]; exact hR1.moved hal.symm)
    ⟨Nat.le_trans hS.1 (by rw [e1]; exact hz), fun q h1 h2 => by rw [e1, hk q (Nat.lt_of_lt_of_le h1 hS.1) h2]; exact hS.2.1 q h1 h2, fun q hq => by
      rcases List.mem_append.mp hq with h | h
      · exact hS.2.2 q h
      · exact hL q h⟩ T' rfl X'
  exact ⟨t2, st t2 a1, b1⟩
/-- what a method of the table does at its arguments, d calls deep -/
def am_Ct (l : Launch) (D : va_G) (B : Nat) (sa : Nat → Nat) (M : am_M) (d : Nat) (as : List Value) (σ : am_S) (v : Option Value) (σ' : am_S) : Prop :=
  Met l M.1 (.code M.1 M.2.1 M.2.2.1 M.2.2.2.1 :: am_W) { frames := d, cells := σ'.1 - σ.1, slots := σ'.2.2 - σ.2.2, locals := 64 * d } (va_Pc as (am_Pre D B sa σ)) (am_Post D B σ' v) (σ'.1 - σ.1) (σ'.2.2 - σ.2.2) (fun q => B ≤ q)
/-- what a callee needs of the tables -/
def am_callee (M : am_M) (n : Nat) : Prop := Cond.code M.1 M.2.1 M.2.2.1 M.2.2.2.1 ∈ am_W ∧ Cond.initialized M.1.cls ∈ am_W ∧ (M.1.cls ≠ "java/lang/invoke/MethodHandle" ∧ M.1.cls ≠ "java/lang/invoke/VarHandle" ∧ (parseMethodDescriptor M.1.desc).map (fun d => d.parameters.length) = some n) ∧ M.2.2.1 ≤ 40
theorem am_goodIn {M : am_M} {n : Nat} (h : am_callee M n) : GoodIn am_W (.code M.1 M.2.1 M.2.2.1 M.2.2.2.1 :: am_W) := by
  intro w hw
  have : w ∈ am_W := by
    rcases List.mem_cons.mp hw with rfl | h1
    · exact h.1
    · exact h1
  exact ⟨this, good_of_word (am_W_good this)⟩
theorem am_w_callV (hexec : p.tables.exec = Jvm.exec) (hb : c.code = cc) {nL : Nat} (hml : c.maxLocals = nL) (hown : s.vm.findClass own = some m.cls) (hts : ∀ w ∈ am_W, w.before args s = true) (hK : am_K D B sa s) (hR : am_R D B s σ H) (hS : va_S (fun q => B ≤ q) s.heap H locs)
    {M : am_M} {n d ci index : Nat} {As fs : List Value} {v : Option Value} {q : vw_C} (hM : am_Ct l D B sa M d (.ref a :: As) σ v σ') (hce : am_callee M n) (ho : am_obj σ a ci = some fs) (hc : vwCl[ci]? = some q) (hcq : q.1 = M.1.cls)
    (hl : Cond.methodLink own index M.1 ∈ am_W) (hin : Cond.instanceMethod M.1 ∈ am_W) (hsel : Cond.selects M.1.cls M.1 M.1 ∈ am_W) (hn : As.length = n) (hsz : ls.size = nL) (hst : st0 = As.reverse ++ .ref a :: rest) (hW : (rest.map fun v => v.category).sum ≤ 8) (hfr : R.frames = d + 1) (hlo : R.locals = 64 * (d + 1))
    (hdg : decode cc pc = .ok (.invokevirtual index, 3)) (hf : cells + (σ'.1 - σ.1) ≤ R.cells ∧ slots + (σ'.2.2 - σ.2.2) ≤ R.slots)
    (kk : ∀ (H1 : Heap) (locs1 : List Loc), am_R D B s σ' H1 → va_S (fun q => B ≤ q) s.heap H1 locs1 → W p l e R s m args below meth c H1 locs1 (cells + (σ'.1 - σ.1)) (slots + (σ'.2.2 - σ.2.2)) Q (F0 m (pc + 3) ls (v.toList ++ rest))) : W p l e R s m args below meth c H locs cells slots Q (F0 m pc ls st0) := by
  obtain ⟨r, h1, h2, cell, q1, q2, q3, q4⟩ := am_objat hR ho
  cases h1.symm.trans hc
  have hKn := (hK.1.1 ci _ hc).2.1
  have hroom : d + 1 ≤ R.frames ∧ 8 + (M.2.2.1 + 11) + 64 * d ≤ R.locals := ⟨by rw [hfr]; exact Nat.le_refl _, by rw [hlo]; have := hce.2.2.2; omega⟩
  refine am_w_run (ar := (Value.ref a :: As).toArray) (va_runV (C := M.1.cls) (b := a) (As := As) (rest := rest) (n := n) ⟨hexec, hb, hml, hown, hts⟩ hM ⟨callB_of n hts (am_goodIn hce) rfl rfl rfl (hts _ hce.2.1) (hts _ hl) hce.2.2.1 hroom, hts _ hin, hts _ hsel⟩ ⟨am_blind, ⟨cell, q1, by rw [q3]; rfl, by rw [← hcq, q2]; exact hKn⟩, fun U hU hWm => ⟨rfl, am_pre_at hR hK hS hU hWm⟩⟩ rfl hn hsz hst (lv_room hW) hdg hf) hS kk
theorem am_w_callS (hexec : p.tables.exec = Jvm.exec) (hb : c.code = cc) {nL : Nat} (hml : c.maxLocals = nL) (hown : s.vm.findClass own = some m.cls) (hts : ∀ w ∈ am_W, w.before args s = true) (hK : am_K D B sa s) (hR : am_R D B s σ H) (hS : va_S (fun q => B ≤ q) s.heap H locs)
    {M : am_M} {n d index : Nat} {As : List Value} {v : Option Value} (hM : am_Ct l D B sa M d As σ v σ') (hce : am_callee M n)
    (hl : Cond.methodLink own index M.1 ∈ am_W ∨ ∃ host, va_Nw (.methodLinkNest own index M.1 host) s) (hst1 : Cond.static M.1 ∈ am_W) (hn : As.length = n) (hsz : ls.size = nL) (hst : st0 = As.reverse ++ rest) (hW : (rest.map fun v => v.category).sum ≤ 8) (hfr : R.frames = d + 1) (hlo : R.locals = 64 * (d + 1))
    (hdg : decode cc pc = .ok (.invokestatic index, 3)) (hf : cells + (σ'.1 - σ.1) ≤ R.cells ∧ slots + (σ'.2.2 - σ.2.2) ≤ R.slots)
    (kk : ∀ (H1 : Heap) (locs1 : List Loc), am_R D B s σ' H1 → va_S (fun q => B ≤ q) s.heap H1 locs1 → W p l e R s m args below meth c H1 locs1 (cells + (σ'.1 - σ.1)) (slots + (σ'.2.2 - σ.2.2)) Q (F0 m (pc + 3) ls (v.toList ++ rest))) : W p l e R s m args below meth c H locs cells slots Q (F0 m pc ls st0) := by
  have hroom : d + 1 ≤ R.frames ∧ 8 + (M.2.2.1 + 11) + 64 * d ≤ R.locals := ⟨by rw [hfr]; exact Nat.le_refl _, by rw [hlo]; have := hce.2.2.2; omega⟩
  rcases hl with hl | ⟨host, hl⟩
  · exact am_w_run (ar := As.toArray) (va_runS (As := As) (rest := rest) (n := n) ⟨hexec, hb, hml, hown, hts⟩ hM ⟨callB_of n hts (am_goodIn hce) rfl rfl rfl (hts _ hce.2.1) (hts _ hl) hce.2.2.1 hroom, hts _ hst1⟩ ⟨am_blind, fun U hU hWm => ⟨rfl, am_pre_at hR hK hS hU hWm⟩⟩ rfl hn hsz hst (lv_room hW) hdg hf) hS kk
  · exact am_w_run (ar := As.toArray) (va_runSN (As := As) (rest := rest) (n := n) ⟨hexec, hb, hml, hown, hts⟩ hM ⟨va_cnB n hts (am_goodIn hce) rfl rfl rfl hl (hts _ hce.2.1) hce.2.2.1 hroom, hts _ hst1, trivial⟩ ⟨am_blind, fun U hU hWm => ⟨rfl, am_pre_at hR hK hS hU hWm⟩⟩ rfl hn hsz hst (lv_room hW) hdg hf) hS kk
theorem am_w_callI (hexec : p.tables.exec = Jvm.exec) (hb : c.code = cc) {nL : Nat} (hml : c.maxLocals = nL) (hown : s.vm.findClass own = some m.cls) (hts : ∀ w ∈ am_W, w.before args s = true) (hK : am_K D B sa s) (hR : am_R D B s σ H) (hS : va_S (fun q => B ≤ q) s.heap H locs)
    {M : am_M} {n d index : Nat} {As : List Value} {v : Option Value} (hM : am_Ct l D B sa M d (.ref a :: As) σ v σ') (hce : am_callee M n) (hret : M.2.2.2.1 = none)
    (hl : Cond.methodLink own index M.1 ∈ am_W) (hin : Cond.instanceMethod M.1 ∈ am_W) (hnm : M.1.name = "<init>") (hn : As.length = n) (hsz : ls.size = nL) (hst : st0 = As.reverse ++ .ref a :: rest) (hW : (rest.map fun v => v.category).sum ≤ 8) (hfr : R.frames = d + 1) (hlo : R.locals = 64 * (d + 1))
    (hdg : decode cc pc = .ok (.invokespecial index, 3)) (hf : cells + (σ'.1 - σ.1) ≤ R.cells ∧ slots + (σ'.2.2 - σ.2.2) ≤ R.slots)
    (kk : ∀ (H1 : Heap) (locs1 : List Loc), am_R D B s σ' H1 → va_S (fun q => B ≤ q) s.heap H1 locs1 → W p l e R s m args below meth c H1 locs1 (cells + (σ'.1 - σ.1)) (slots + (σ'.2.2 - σ.2.2)) Q (F0 m (pc + 3) ls (v.toList ++ rest))) : W p l e R s m args below meth c H locs cells slots Q (F0 m pc ls st0) := by
  have hroom : d + 1 ≤ R.frames ∧ 8 + (M.2.2.1 + 11) + 64 * d ≤ R.locals := ⟨by rw [hfr]; exact Nat.le_refl _, by rw [hlo]; have := hce.2.2.2; omega⟩
  have hg := am_goodIn hce
  unfold am_Ct at hM
  rw [hret] at hM hg
  exact am_w_run (ar := (Value.ref a :: As).toArray) (va_runI (b := a) (As := As) (rest := rest) (n := n) ⟨hexec, hb, hml, hown, hts⟩ hM (cwI n hts hg rfl rfl rfl (hts _ hce.2.1) (hts _ hl) (hts _ hin) hnm hce.2.2.1 hroom) ⟨am_blind, fun U hU hWm => ⟨rfl, am_pre_at hR hK hS hU hWm⟩⟩ rfl hn hsz hst (lv_room hW) hdg hf) hS kk
end AMC
end
section
/-! one row of the abstract machine is one instruction of the machine -/
/-- what is checked of a row -/
def am_good (tb : Nat → Option am_M) (own nm : String) (nL : Nat) (cc : ByteArray) (r : am_I) : Prop :=
  decode cc r.1 = .ok (r.2.1, r.2.2.1) ∧ match r.2.1 with
  | .bipush _ => r.2.2.1 = 2
  | .iload _ => r.2.2.1 = 2
  | .aload _ => r.2.2.1 = 2
  | .sipush _ => r.2.2.1 = 3
  | .istore_n k => r.2.2.1 = 1 ∧ k.val < nL
  | .astore_n k => r.2.2.1 = 1 ∧ k.val < nL
  | .istore k => r.2.2.1 = 2 ∧ k < nL
  | .astore k => r.2.2.1 = 2 ∧ k < nL
  | .iinc k _ => r.2.2.1 = 3 ∧ k < nL
  | .ldc i => r.2.2.1 = 2 ∧ Cond.constant own i (Int32.ofNat r.2.2.2.2.1) ∈ am_W
  | .ldc_w i => r.2.2.1 = 3 ∧ Cond.constant own i (Int32.ofNat r.2.2.2.2.1) ∈ am_W
  | .goto o => r.2.2.1 = 3 ∧ (r.1 : Int) + o = (r.2.2.2.2.1 : Int)
  | .if_icmp _ o => r.2.2.1 = 3 ∧ (r.1 : Int) + o = (r.2.2.2.2.1 : Int)
  | .ifCond _ o => r.2.2.1 = 3 ∧ (r.1 : Int) + o = (r.2.2.2.2.1 : Int)
  | .ifnull o => r.2.2.1 = 3 ∧ (r.1 : Int) + o = (r.2.2.2.2.1 : Int)
  | .ifnonnull o => r.2.2.1 = 3 ∧ (r.1 : Int) + o = (r.2.2.2.2.1 : Int)
  | .tableswitch dflt lo hi offs => hi = lo + offs.size - 1 ∧ 0 ≤ (r.1 : Int) + dflt ∧ ∀ o ∈ offs.toList, 0 ≤ (r.1 : Int) + o
  | .getfield i => r.2.2.1 = 3 ∧ ∃ q : vw_C, vwCl[r.2.2.2.2.1]? = some q ∧ r.2.2.2.2.2.1 < q.2.2 ∧ (Cond.fieldLink own i (q.2.1 r.2.2.2.2.2.1).1 (q.2.1 r.2.2.2.2.2.1).2.1 (q.2.1 r.2.2.2.2.2.1).2.2.1 ∈ am_W ∨ ∃ host, (own, i, (q.2.1 r.2.2.2.2.2.1).1, (q.2.1 r.2.2.2.2.2.1).2.1, (q.2.1 r.2.2.2.2.2.1).2.2.1, host) ∈ am_NF)
  | .putfield i => r.2.2.1 = 3 ∧ ∃ (q : vw_C) (ty : FieldType), vwCl[r.2.2.2.2.1]? = some q ∧ parseFieldDescriptor (q.2.1 r.2.2.2.2.2.1).2.2.1 = some ty ∧ (r.2.2.2.2.2.2 % 3 = 0 → ty = .int) ∧ (r.2.2.2.2.2.2 % 3 = 2 → ty = .boolean) ∧ (r.2.2.2.2.2.2 % 3 = 1 → (∃ n, ty = .object n) ∨ ∃ t, ty = .array t) ∧
      (((q.2.1 r.2.2.2.2.2.1).2.2.2 = false ∧ (Cond.fieldLink own i (q.2.1 r.2.2.2.2.2.1).1 (q.2.1 r.2.2.2.2.2.1).2.1 (q.2.1 r.2.2.2.2.2.1).2.2.1 ∈ am_W ∨ ∃ host, (own, i, (q.2.1 r.2.2.2.2.2.1).1, (q.2.1 r.2.2.2.2.2.1).2.1, (q.2.1 r.2.2.2.2.2.1).2.2.1, host) ∈ am_NF)) ∨
       ((q.2.1 r.2.2.2.2.2.1).2.2.2 = true ∧ nm = "<init>" ∧ (q.2.1 r.2.2.2.2.2.1).1 = own ∧ Cond.fieldLink own i (q.2.1 r.2.2.2.2.2.1).1 (q.2.1 r.2.2.2.2.2.1).2.1 (q.2.1 r.2.2.2.2.2.1).2.2.1 ∈ am_W))
  | .getstatic i => r.2.2.1 = 3 ∧ ∃ q : String × String × String, am_SF r.2.2.2.2.1 = some q ∧ Cond.fieldLink own i q.1 q.2.1 q.2.2 ∈ am_W
  | .newarray .int => r.2.2.1 = 2 ∧ Cond.arrayClass .int ∈ am_W
  | .new i => r.2.2.1 = 3 ∧ ∃ q : vw_C, vwCl[r.2.2.2.2.1]? = some q ∧ Cond.classLink own i q.1 ∈ am_W ∧ Cond.instantiable q.1 q.2.2 ∈ am_W ∧ Cond.initialized q.1 ∈ am_W ∧ (am_dfl r.2.2.2.2.1).length = q.2.2 ∧ ∀ j, j < q.2.2 → (parseFieldDescriptor (q.2.1 j).2.2.1).map defaultValue = some (vp_V (am_dfl r.2.2.2.2.1) j)
  | .invokespecial i => r.2.2.1 = 3 ∧ (r.2.2.2.2.2.2 = 0 → Cond.methodLink own i objectInit ∈ am_W ∧ Cond.instanceMethod objectInit ∈ am_W ∧ Cond.code objectInit ⟨#[0xb1]⟩ 1 none ∈ am_W) ∧ (r.2.2.2.2.2.2 ≠ 0 → ∃ M, tb r.2.2.2.2.1 = some M ∧ am_callee M r.2.2.2.2.2.1 ∧ M.2.2.2.1 = none ∧ Cond.methodLink own i M.1 ∈ am_W ∧ Cond.instanceMethod M.1 ∈ am_W ∧ M.1.name = "<init>")
  | .invokevirtual i => r.2.2.1 = 3 ∧ ∃ M, tb r.2.2.2.2.1 = some M ∧ am_callee M r.2.2.2.2.2.1 ∧ (∃ q, vwCl[r.2.2.2.2.2.2 / 100]? = some q ∧ q.1 = M.1.cls) ∧ Cond.methodLink own i M.1 ∈ am_W ∧ Cond.instanceMethod M.1 ∈ am_W ∧ Cond.selects M.1.cls M.1 M.1 ∈ am_W
  | .invokestatic i => r.2.2.1 = 3 ∧
      (r.2.2.2.2.2.2 = 5 → Cond.methodLink own i Lib.Math.max.name ∈ am_W ∧ Cond.static Lib.Math.max.name ∈ am_W ∧ Cond.initialized "java/lang/Math" ∈ am_W ∧ Cond.code Lib.Math.max.name Lib.Math.max.code 2 (some .int) ∈ am_W) ∧
      (r.2.2.2.2.2.2 = 6 → Cond.methodLink own i Lib.Math.min.name ∈ am_W ∧ Cond.static Lib.Math.min.name ∈ am_W ∧ Cond.initialized "java/lang/Math" ∈ am_W ∧ Cond.code Lib.Math.min.name Lib.Math.min.code 2 (some .int) ∈ am_W) ∧
      (r.2.2.2.2.2.2 = 7 → Cond.methodLink own i arraycopyName ∈ am_W ∧ Cond.native arraycopyName ∈ am_W ∧ Cond.static arraycopyName ∈ am_W ∧ Cond.initialized "java/lang/System" ∈ am_W) ∧
      (r.2.2.2.2.2.2 ≠ 5 → r.2.2.2.2.2.2 ≠ 6 → r.2.2.2.2.2.2 ≠ 7 → ∃ M, tb r.2.2.2.2.1 = some M ∧ am_callee M r.2.2.2.2.2.1 ∧ Cond.static M.1 ∈ am_W ∧ (Cond.methodLink own i M.1 ∈ am_W ∨ ∃ host, (own, i, M.1, host) ∈ am_NM))
  | _ => r.2.2.1 = 1
theorem am_lk_mem : ∀ {L : am_L} {i : Nat} {v : Value}, am_lk L i = some v → (i, v) ∈ L
  | [], _, _, h => by cases h
  | q :: L, i, v, h => by
    unfold am_lk at h
    split at h
    · rename_i e
      cases h
      exact e ▸ List.mem_cons_self
    · exact List.mem_cons_of_mem _ (am_lk_mem h)
theorem am_lk_has {ls : Array Slot} {nL : Nat} {L : am_L} {i : Nat} {v : Value} (hl : lv_has ls nL L) (h : am_lk L i = some v) : ls[i]? = some (.val v) := hl.2.2 (i, v) (am_lk_mem h)
section AMT
variable {p : Program} {l : Launch} {e : Env} {R : Room} {s : State} {m : MethodId} {args : Array Value} {below : List Frame} {meth : Method} {c : Code} {Q : State → Prop} {D : va_G} {B : Nat} {sa : Nat → Nat} {cc : ByteArray} {nL d : Nat} {own nm : String} {σ0 σF : am_S} {tb : Nat → Option am_M} {cl : am_F}
/-- the method that runs, its room, its callees -/
def am_X (p : Program) (l : Launch) (R : Room) (s : State) (m : MethodId) (args : Array Value) (meth : Method) (c : Code) (D : va_G) (B : Nat) (sa : Nat → Nat) (cc : ByteArray) (nL d : Nat) (own nm : String) (σ0 σF : am_S) (tb : Nat → Option am_M) (cl : am_F) : Prop :=
  (p.tables.exec = Jvm.exec ∧ c.code = cc ∧ c.maxLocals = nL ∧ s.vm.findClass own = some m.cls ∧ meth.name = nm) ∧ (∀ w ∈ am_W, w.before args s = true) ∧ am_K D B sa s ∧ (R.frames = d + 1 ∧ R.locals = 64 * (d + 1) ∧ R.cells = σF.1 - σ0.1 ∧ R.slots = σF.2.2 - σ0.2.2) ∧
  ∀ (mi : Nat) (as : List Value) (σ : am_S) (v : Option Value) (σ' : am_S), cl mi as σ = some (v, σ') → (σ.1 ≤ σ'.1 ∧ σ.2.2 ≤ σ'.2.2) ∧ ∀ M, tb mi = some M → am_Ct l D B sa M d as σ v σ'
def am_Wat (p : Program) (l : Launch) (e : Env) (R : Room) (s : State) (m : MethodId) (args : Array Value) (below : List Frame) (meth : Method) (c : Code) (Q : State → Prop) (D : va_G) (B nL : Nat) (σ0 : am_S) (pc : Nat) (L : am_L) (st : List Value) (σ : am_S) : Prop :=
  ∀ (H : Heap) (locs : List Loc) (ls : Array Slot), am_R D B s σ H → va_S (fun q => B ≤ q) s.heap H locs → lv_has ls nL L → σ0.1 ≤ σ.1 → σ0.2.2 ≤ σ.2.2 → W p l e R s m args below meth c H locs (σ.1 - σ0.1) (σ.2.2 - σ0.2.2) Q (F0 m pc ls st)
def am_Gd (p : Program) (l : Launch) (e : Env) (R : Room) (s : State) (m : MethodId) (args : Array Value) (below : List Frame) (meth : Method) (c : Code) (Q : State → Prop) (D : va_G) (B nL : Nat) (σ0 σF : am_S) (pc : Nat) (L : am_L) (st : List Value) (σ : am_S) : Prop :=
  (σ.1 ≤ σF.1 ∧ σ.2.2 ≤ σF.2.2) ∧ am_Wat p l e R s m args below meth c Q D B nL σ0 pc L st σ
theorem am_sw_ok {α : Type} {v : Int} {P : Option α → Prop} (dflt : Option α) (jp : Int → Option α) : ∀ (os : List Int) (lo : Int), P (am_sw v dflt jp os lo) → ((v < lo ∨ lo + os.length ≤ v) ∧ P dflt) ∨ ∃ (i : Nat) (o : Int), v = lo + i ∧ os[i]? = some o ∧ P (jp o)
  | [], lo, h => Or.inl ⟨by simp only [List.length_nil]; omega, h⟩
  | o :: os, lo, h => by
    unfold am_sw at h
    split at h
    · rename_i e
      exact Or.inr ⟨0, o, by simpa using e, rfl, h⟩
    · rename_i e
      rcases am_sw_ok dflt jp os (lo + 1) h with ⟨h1, h2⟩ | ⟨i, o', h1, h2, h3⟩
      · refine Or.inl ⟨?_, h2⟩
        simp only [List.length_cons]
        omega
      · exact Or.inr ⟨i + 1, o', by rw [h1]; simp only [Int.natCast_add, Int.natCast_one]; omega, by simpa using h2, h3⟩
theorem am_back_ok {α : Type} {kind : Nat} {r : Option (Option Value × am_S)} {rest : List Value} {nx : List Value → am_S → Option α} {o : α} (h : am_back kind r rest nx = some o) : ∃ (v : Option Value) (σ' : am_S), r = some (v, σ') ∧ nx (v.toList ++ rest) σ' = some o := by
  unfold am_back at h
  split at h
  · cases r with
    | none => cases h
    | some q =>
      obtain ⟨v, σ'⟩ := q
      simp only [Option.bind_some] at h
      split at h
      · exact ⟨none, σ', rfl, h⟩
      · cases h
  · cases r with
    | none => cases h
    | some q =>
      obtain ⟨v, σ'⟩ := q
      simp only [Option.bind_some] at h
      split at h
      · exact ⟨_, σ', rfl, h⟩
      · cases h
  · cases r with
    | none => cases h
    | some q =>
      obtain ⟨v, σ'⟩ := q
      simp only [Option.bind_some] at h
      split at h
      · exact ⟨_, σ', rfl, h⟩
      · exact ⟨_, σ', rfl, h⟩
      · cases h
theorem am_take {n : Nat} {st : List Value} : st = ((st.take n).reverse).reverse ++ st.drop n := by simp
end AMT
end
section
/-! the step theorem -/
section AMU
variable {p : Program} {l : Launch} {e : Env} {R : Room} {s : State} {m : MethodId} {args : Array Value} {below : List Frame} {meth : Method} {c : Code} {Q : State → Prop} {D : va_G} {B : Nat} {sa : Nat → Nat} {cc : ByteArray} {nL d : Nat} {own nm : String} {σ0 σF : am_S} {tb : Nat → Option am_M} {cl : am_F}
theorem am_small_ok {st : List Value} (h : am_small st = true) : (st.map fun v => v.category).sum ≤ 8 := of_decide_eq_true h
set_option maxHeartbeats 4000000 in
theorem am_inv_I {α : Type} (X : am_X p l R s m args meth c D B sa cc nL d own nm σ0 σF tb cl) {M : am_M} {x n pc i : Nat} {L : am_L} {st : List Value} {σ : am_S} {nx : List Value → am_S → Option α} {o : α} (hM : tb x = some M) (hce : am_callee M n) (hret : M.2.2.2.1 = none) (hl : Cond.methodLink own i M.1 ∈ am_W) (hin : Cond.instanceMethod M.1 ∈ am_W) (hnm : M.1.name = "<init>") (hdg : decode cc pc = .ok (.invokespecial i, 3))
    (h : am_invI cl x (n + 1) st σ nx = some o)
    (hn : ∀ st' σ', nx st' σ' = some o → am_Gd p l e R s m args below meth c Q D B nL σ0 σF (pc + 3) L st' σ') : am_Gd p l e R s m args below meth c Q D B nL σ0 σF pc L st σ := by
  obtain ⟨⟨hexec, hb, hml, hown, -⟩, hts, hK, ⟨hfr, hlo, hrc, hrs⟩, hcl⟩ := X
  unfold am_invI at h
  split at h
  · cases h
  · rename_i hlen
    split at h
    · rename_i hsm
      split at h
      · rename_i b As hba
        obtain ⟨v, σ', hr, hnx⟩ := am_back_ok h
        obtain ⟨hmono, hct⟩ := hcl _ _ _ _ _ hr
        obtain ⟨⟨hF1, hF2⟩, hw⟩ := hn _ _ hnx
        refine ⟨⟨by omega, by omega⟩, fun H locs ls hR hS hls h1 h2 => ?_⟩
        have hlA : As.length = n := by
          have := congrArg List.length hba
          rw [List.length_reverse, List.length_take, List.length_cons] at this
          omega
        refine am_w_callI hexec hb hml hown hts hK hR hS (hct M hM) hce hret hl hin hnm hlA hls.1 (by
          have h3 : st = ((st.take (n + 1)).reverse).reverse ++ st.drop (n + 1) := am_take
          rw [hba] at h3
          simpa using h3) (am_small_ok hsm) hfr hlo hdg ⟨by rw [hrc]; omega, by rw [hrs]; omega⟩ fun H1 locs1 hR1 hS1 => ?_
        have := hw H1 locs1 ls hR1 hS1 hls (by omega) (by omega)
        rw [show σ.1 - σ0.1 + (σ'.1 - σ.1) = σ'.1 - σ0.1 by omega, show σ.2.2 - σ0.2.2 + (σ'.2.2 - σ.2.2) = σ'.2.2 - σ0.2.2 by omega]
        exact this
      · cases h
    · cases h
set_option maxHeartbeats 4000000 in
theorem am_inv_S {α : Type} (X : am_X p l R s m args meth c D B sa cc nL d own nm σ0 σF tb cl) {M : am_M} {x n ret pc i : Nat} {L : am_L} {st : List Value} {σ : am_S} {nx : List Value → am_S → Option α} {o : α} (hM : tb x = some M) (hce : am_callee M n) (hst1 : Cond.static M.1 ∈ am_W) (hl : Cond.methodLink own i M.1 ∈ am_W ∨ ∃ host, (own, i, M.1, host) ∈ am_NM) (hdg : decode cc pc = .ok (.invokestatic i, 3))
    (h : am_inv cl x n ret st σ nx = some o)
    (hn : ∀ st' σ', nx st' σ' = some o → am_Gd p l e R s m args below meth c Q D B nL σ0 σF (pc + 3) L st' σ') : am_Gd p l e R s m args below meth c Q D B nL σ0 σF pc L st σ := by
  obtain ⟨⟨hexec, hb, hml, hown, -⟩, hts, hK, ⟨hfr, hlo, hrc, hrs⟩, hcl⟩ := X
  unfold am_inv at h
  split at h
  · cases h
  · rename_i hlen
    split at h
    · rename_i hsm
      obtain ⟨v, σ', hr, hnx⟩ := am_back_ok h
      obtain ⟨hmono, hct⟩ := hcl _ _ _ _ _ hr
      obtain ⟨⟨hF1, hF2⟩, hw⟩ := hn _ _ hnx
      refine ⟨⟨by omega, by omega⟩, fun H locs ls hR hS hls h1 h2 => ?_⟩
      have hl2 : Cond.methodLink own i M.1 ∈ am_W ∨ ∃ host, va_Nw (.methodLinkNest own i M.1 host) s := hl.imp id fun ⟨host, hh⟩ => ⟨host, hK.2.2.1 _ hh⟩
      refine am_w_callS hexec hb hml hown hts hK hR hS (hct M hM) hce hl2 hst1 (by rw [List.length_reverse, List.length_take]; omega) hls.1 am_take (am_small_ok hsm) hfr hlo hdg ⟨by rw [hrc]; omega, by rw [hrs]; omega⟩ fun H1 locs1 hR1 hS1 => ?_
      have := hw H1 locs1 ls hR1 hS1 hls (by omega) (by omega)
      rw [show σ.1 - σ0.1 + (σ'.1 - σ.1) = σ'.1 - σ0.1 by omega, show σ.2.2 - σ0.2.2 + (σ'.2.2 - σ.2.2) = σ'.2.2 - σ0.2.2 by omega]
      exact this
    · cases h
set_option maxHeartbeats 4000000 in
theorem am_inv_V {α : Type} (X : am_X p l R s m args meth c D B sa cc nL d own nm σ0 σF tb cl) {M : am_M} {x n ret ci pc i : Nat} {L : am_L} {st : List Value} {σ : am_S} {nx : List Value → am_S → Option α} {o : α} {q : vw_C} (hM : tb x = some M) (hce : am_callee M n) (hc : vwCl[ci]? = some q) (hcq : q.1 = M.1.cls) (hl : Cond.methodLink own i M.1 ∈ am_W) (hin : Cond.instanceMethod M.1 ∈ am_W) (hsel : Cond.selects M.1.cls M.1 M.1 ∈ am_W) (hdg : decode cc pc = .ok (.invokevirtual i, 3))
    (h : am_invV cl x (n + 1) ret ci st σ nx = some o)
    (hn : ∀ st' σ', nx st' σ' = some o → am_Gd p l e R s m args below meth c Q D B nL σ0 σF (pc + 3) L st' σ') : am_Gd p l e R s m args below meth c Q D B nL σ0 σF pc L st σ := by
  obtain ⟨⟨hexec, hb, hml, hown, -⟩, hts, hK, ⟨hfr, hlo, hrc, hrs⟩, hcl⟩ := X
  unfold am_invV at h
  split at h
  · cases h
  · rename_i hlen
    split at h
    · rename_i hsm
      split at h
      · rename_i b As hba
        obtain ⟨fs, ho, h⟩ := Option.bind_eq_some_iff.mp h
        obtain ⟨v, σ', hr, hnx⟩ := am_back_ok h
        obtain ⟨hmono, hct⟩ := hcl _ _ _ _ _ hr
        obtain ⟨⟨hF1, hF2⟩, hw⟩ := hn _ _ hnx
        refine ⟨⟨by omega, by omega⟩, fun H locs ls hR hS hls h1 h2 => ?_⟩
        have hlA : As.length = n := by
          have := congrArg List.length hba
          rw [List.length_reverse, List.length_take, List.length_cons] at this
          omega
        refine am_w_callV hexec hb hml hown hts hK hR hS (hct M hM) hce ho hc hcq hl hin hsel hlA hls.1 (by
          have h3 : st = ((st.take (n + 1)).reverse).reverse ++ st.drop (n + 1) := am_take
          rw [hba] at h3
          simpa using h3) (am_small_ok hsm) hfr hlo hdg ⟨by rw [hrc]; omega, by rw [hrs]; omega⟩ fun H1 locs1 hR1 hS1 => ?_
        have := hw H1 locs1 ls hR1 hS1 hls (by omega) (by omega)
        rw [show σ.1 - σ0.1 + (σ'.1 - σ.1) = σ'.1 - σ0.1 by omega, show σ.2.2 - σ0.2.2 + (σ'.2.2 - σ.2.2) = σ'.2.2 - σ0.2.2 by omega]
        exact this
      · cases h
    · cases h
theorem am_put_ok {σ σ' : am_S} {a ci k : Nat} {v : Value} (h : am_put B σ a ci k v = some σ') : ∃ fs, am_obj σ a ci = some fs ∧ B ≤ a ∧ k < fs.length ∧ σ' = (σ.1, am_upd σ.2.1 a (.inr (ci, fs.set k v)), σ.2.2) := by
  unfold am_put at h
  obtain ⟨fs, ho, h⟩ := Option.bind_eq_some_iff.mp h
  split at h
  · cases h
  · rename_i hc
    cases h
    exact ⟨fs, ho, by omega, by omega, rfl⟩
theorem am_iald_ok {σ : am_S} {a : Nat} {i v : Int32} (h : am_iald σ a i = some v) : ∃ x, am_arr σ a = some x ∧ ¬ (i < 0 ∨ x.1 ≤ i.toNatClampNeg) ∧ v = x.2 i.toNatClampNeg := by
  unfold am_iald at h
  obtain ⟨x, ho, h⟩ := Option.bind_eq_some_iff.mp h
  split at h
  · cases h
  · rename_i hc
    cases h
    exact ⟨x, ho, hc, rfl⟩
theorem am_iast_ok {σ σ' : am_S} {a : Nat} {i v : Int32} (h : am_iast B σ a i v = some σ') : ∃ y, am_arr σ a = some y ∧ B ≤ a ∧ ¬ (i < 0 ∨ y.1 ≤ i.toNatClampNeg) ∧ σ' = (σ.1, am_upd σ.2.1 a (.inl (y.1, upd y.2 i.toNatClampNeg v)), σ.2.2) := by
  unfold am_iast at h
  obtain ⟨x, ho, h⟩ := Option.bind_eq_some_iff.mp h
  split at h
  · cases h
  · rename_i hc
    cases h
    exact ⟨x, ho, by omega, fun z => hc (Or.inr z), rfl⟩
theorem am_geti_ok {σ : am_S} {a ci k : Nat} {v : Int32} (h : am_geti σ a ci k = some v) : ∃ fs, am_obj σ a ci = some fs ∧ fs[k]? = some (.int v) := by
  unfold am_geti at h
  obtain ⟨fs, ho, h⟩ := Option.bind_eq_some_iff.mp h
  split at h
  · rename_i x hx
    cases h
    exact ⟨fs, ho, hx⟩
  · cases h
theorem am_getr_ok {σ : am_S} {a ci k v : Nat} (h : am_getr σ a ci k = some v) : ∃ fs, am_obj σ a ci = some fs ∧ fs[k]? = some (.ref v) := by
  unfold am_getr at h
  obtain ⟨fs, ho, h⟩ := Option.bind_eq_some_iff.mp h
  split at h
  · rename_i x hx
    cases h
    exact ⟨fs, ho, hx⟩
  · cases h
theorem am_cpy_ok {σ σ' : am_S} {a0 a : Nat} {sp dp n : Int32} (h : am_cpy B σ a0 sp a dp n = some σ') : ∃ x y, am_arr σ a0 = some x ∧ am_arr σ a = some y ∧ B ≤ a0 ∧ B ≤ a ∧ ¬ sp < 0 ∧ ¬ dp < 0 ∧ ¬ n < 0 ∧ sp.toNatClampNeg + n.toNatClampNeg ≤ x.1 ∧ dp.toNatClampNeg + n.toNatClampNeg ≤ y.1 ∧ σ' = (σ.1, am_upd σ.2.1 a (.inl (y.1, va_cpy x.2 y.2 sp.toNatClampNeg dp.toNatClampNeg n.toNatClampNeg)), σ.2.2) := by
  unfold am_cpy at h
  obtain ⟨x, ho, h⟩ := Option.bind_eq_some_iff.mp h
  obtain ⟨y, ho2, h⟩ := Option.bind_eq_some_iff.mp h
  split at h
  · cases h
  · rename_i hc
    cases h
    exact ⟨x, y, ho, ho2, by omega, by omega, fun z => hc (by simp [z]), fun z => hc (by simp [z]), fun z => hc (by simp [z]), by omega, by omega, rfl⟩
end AMU
end
section
/-! the step theorem, case by case -/
section AMV
variable {p : Program} {l : Launch} {e : Env} {R : Room} {s : State} {m : MethodId} {args : Array Value} {below : List Frame} {meth : Method} {c : Code} {Q : State → Prop} {D : va_G} {B : Nat} {sa : Nat → Nat} {cc : ByteArray} {nL d : Nat} {own nm : String} {σ0 σF : am_S} {tb : Nat → Option am_M} {cl : am_F}
set_option maxHeartbeats 8000000 in
set_option maxRecDepth 20000 in
theorem am_step_ok {α : Type} (X : am_X p l R s m args meth c D B sa cc nL d own nm σ0 σF tb cl) {r : am_I} (hg : am_good tb own nm nL cc r) {L : am_L} {st : List Value} {σ : am_S} {nx : am_L → List Value → am_S → Option α} {jp : Nat → am_L → List Value → am_S → Option α} {o : α}
    (h : am_step B sa am_dfl cl r L st σ nx jp = some o)
    (hn : ∀ (L' : am_L) (st' : List Value) (σ' : am_S), nx L' st' σ' = some o → am_Gd p l e R s m args below meth c Q D B nL σ0 σF (r.1 + r.2.2.1) L' st' σ')
    (hj : ∀ (pc' : Nat) (L' : am_L) (st' : List Value) (σ' : am_S), jp pc' L' st' σ' = some o → am_Gd p l e R s m args below meth c Q D B nL σ0 σF pc' L' st' σ') : am_Gd p l e R s m args below meth c Q D B nL σ0 σF r.1 L st σ := by
  obtain ⟨pc, ins, len, stop, x, y, z⟩ := r
  obtain ⟨hdg, hg⟩ := hg
  have X0 := X
  obtain ⟨⟨hexec, hb, hml, hown, hnm⟩, hts, hK, ⟨hfr, hlo, hrc, hrs⟩, hcl⟩ := X
  dsimp only at hdg hn ⊢
  cases ins with
  | iconst n =>
    unfold am_step at h
    dsimp only at h hg
    subst hg
    obtain ⟨hF, hw⟩ := hn _ _ _ h
    exact ⟨hF, fun H locs ls hR hS hls h1 h2 => lv_iconst hexec hb hdg rfl (hw H locs ls hR hS hls h1 h2)⟩
  | bipush n =>
    unfold am_step at h
    dsimp only at h hg
    subst hg
    obtain ⟨hF, hw⟩ := hn _ _ _ h
    exact ⟨hF, fun H locs ls hR hS hls h1 h2 => lv_bipush hexec hb hdg rfl (hw H locs ls hR hS hls h1 h2)⟩
  | sipush n =>
    unfold am_step at h
    dsimp only at h hg
    subst hg
    obtain ⟨hF, hw⟩ := hn _ _ _ h
    exact ⟨hF, fun H locs ls hR hS hls h1 h2 => lv_sipush hexec hb hdg rfl (hw H locs ls hR hS hls h1 h2)⟩
  | aconst_null =>
    unfold am_step at h
    dsimp only at h hg
    subst hg
    obtain ⟨hF, hw⟩ := hn _ _ _ h
    exact ⟨hF, fun H locs ls hR hS hls h1 h2 => lv_null hexec hb hdg (hw H locs ls hR hS hls h1 h2)⟩
  | ldc i =>
    unfold am_step at h
    dsimp only at h hg
    obtain ⟨rfl, hc⟩ := hg
    obtain ⟨hF, hw⟩ := hn _ _ _ h
    exact ⟨hF, fun H locs ls hR hS hls h1 h2 => lv_ldc hexec hb hown (hts _ hc) hdg (hw H locs ls hR hS hls h1 h2)⟩
  | ldc_w i =>
    unfold am_step at h
    dsimp only at h hg
    obtain ⟨rfl, hc⟩ := hg
    obtain ⟨hF, hw⟩ := hn _ _ _ h
    exact ⟨hF, fun H locs ls hR hS hls h1 h2 => lv_ldcw hexec hb hown (hts _ hc) hdg (hw H locs ls hR hS hls h1 h2)⟩
  | iload_n k =>
    unfold am_step at h
    dsimp only at h hg
    subst hg
    split at h
    · rename_i v hv
      obtain ⟨hF, hw⟩ := hn _ _ _ h
      exact ⟨hF, fun H locs ls hR hS hls h1 h2 => lv_iload_n hexec hb hdg rfl (am_lk_has hls hv) (hw H locs ls hR hS hls h1 h2)⟩
    · cases h
  | iload k =>
    unfold am_step at h
    dsimp only at h hg
    subst hg
    split at h
    · rename_i v hv
      obtain ⟨hF, hw⟩ := hn _ _ _ h
      exact ⟨hF, fun H locs ls hR hS hls h1 h2 => lv_iload hexec hb hdg (am_lk_has hls hv) (hw H locs ls hR hS hls h1 h2)⟩
    · cases h
  | aload_n k =>
    unfold am_step at h
    dsimp only at h hg
    subst hg
    split at h
    · rename_i v hv
      obtain ⟨hF, hw⟩ := hn _ _ _ h
      exact ⟨hF, fun H locs ls hR hS hls h1 h2 => lv_aload_n hexec hb hdg rfl (am_lk_has hls hv) (hw H locs ls hR hS hls h1 h2)⟩
    · rename_i hv
      obtain ⟨hF, hw⟩ := hn _ _ _ h
      exact ⟨hF, fun H locs ls hR hS hls h1 h2 => lv_aload_nN hexec hb hdg rfl (am_lk_has hls hv) (hw H locs ls hR hS hls h1 h2)⟩
    · cases h
  | aload k =>
    unfold am_step at h
    dsimp only at h hg
    subst hg
    split at h
    · rename_i v hv
      obtain ⟨hF, hw⟩ := hn _ _ _ h
      exact ⟨hF, fun H locs ls hR hS hls h1 h2 => lv_aload hexec hb hdg (am_lk_has hls hv) (hw H locs ls hR hS hls h1 h2)⟩
    · rename_i hv
      obtain ⟨hF, hw⟩ := hn _ _ _ h
      exact ⟨hF, fun H locs ls hR hS hls h1 h2 => lv_aloadN hexec hb hdg (am_lk_has hls hv) (hw H locs ls hR hS hls h1 h2)⟩
    · cases h
  | istore_n k =>
    unfold am_step at h
    dsimp only at h hg
    obtain ⟨rfl, hk⟩ := hg
    split at h
    · obtain ⟨hF, hw⟩ := hn _ _ _ h
      exact ⟨hF, fun H locs ls hR hS hls h1 h2 => lv_istore_n hexec hb hdg rfl hls hk rfl fun ls' hl' => hw H locs ls' hR hS hl' h1 h2⟩
    · cases h
  | istore k =>
    unfold am_step at h
    dsimp only at h hg
    obtain ⟨rfl, hk⟩ := hg
    split at h
    · obtain ⟨hF, hw⟩ := hn _ _ _ h
      exact ⟨hF, fun H locs ls hR hS hls h1 h2 => lv_istore hexec hb hdg hls hk rfl fun ls' hl' => hw H locs ls' hR hS hl' h1 h2⟩
    · cases h
  | astore_n k =>
    unfold am_step at h
    dsimp only at h hg
    obtain ⟨rfl, hk⟩ := hg
    split at h
    · obtain ⟨hF, hw⟩ := hn _ _ _ h
      exact ⟨hF, fun H locs ls hR hS hls h1 h2 => lv_astore_n hexec hb hdg rfl hls hk rfl fun ls' hl' => hw H locs ls' hR hS hl' h1 h2⟩
    · obtain ⟨hF, hw⟩ := hn _ _ _ h
      exact ⟨hF, fun H locs ls hR hS hls h1 h2 => lv_astore_nN hexec hb hdg rfl hls hk rfl fun ls' hl' => hw H locs ls' hR hS hl' h1 h2⟩
    · cases h
  | astore k =>
    unfold am_step at h
    dsimp only at h hg
    obtain ⟨rfl, hk⟩ := hg
    split at h
    · obtain ⟨hF, hw⟩ := hn _ _ _ h
      exact ⟨hF, fun H locs ls hR hS hls h1 h2 => lv_astore hexec hb hdg hls hk rfl fun ls' hl' => hw H locs ls' hR hS hl' h1 h2⟩
    · obtain ⟨hF, hw⟩ := hn _ _ _ h
      exact ⟨hF, fun H locs ls hR hS hls h1 h2 => lv_astoreN hexec hb hdg hls hk rfl fun ls' hl' => hw H locs ls' hR hS hl' h1 h2⟩
    · cases h
  | iinc k n =>
    unfold am_step at h
    dsimp only at h hg
    obtain ⟨rfl, hk⟩ := hg
    split at h
    · rename_i v hv
      obtain ⟨hF, hw⟩ := hn _ _ _ h
      obtain ⟨kk, hkk⟩ := List.getElem?_of_mem (am_lk_mem hv)
      exact ⟨hF, fun H locs ls hR hS hls h1 h2 => lv_iinc hexec hb hdg hls hkk rfl hk rfl fun ls' hl' => hw H locs ls' hR hS hl' h1 h2⟩
    · cases h
  | iadd =>
    unfold am_step at h
    dsimp only at h hg
    subst hg
    split at h
    · obtain ⟨hF, hw⟩ := hn _ _ _ h
      exact ⟨hF, fun H locs ls hR hS hls h1 h2 => lv_iadd hexec hb hdg (hw H locs ls hR hS hls h1 h2)⟩
    · cases h
  | isub =>
    unfold am_step at h
    dsimp only at h hg
    subst hg
    split at h
    · obtain ⟨hF, hw⟩ := hn _ _ _ h
      exact ⟨hF, fun H locs ls hR hS hls h1 h2 => lv_isub hexec hb hdg (hw H locs ls hR hS hls h1 h2)⟩
    · cases h
  | imul =>
    unfold am_step at h
    dsimp only at h hg
    subst hg
    split at h
    · obtain ⟨hF, hw⟩ := hn _ _ _ h
      exact ⟨hF, fun H locs ls hR hS hls h1 h2 => lv_imul hexec hb hdg (hw H locs ls hR hS hls h1 h2)⟩
    · cases h
  | iand =>
    unfold am_step at h
    dsimp only at h hg
    subst hg
    split at h
    · obtain ⟨hF, hw⟩ := hn _ _ _ h
      exact ⟨hF, fun H locs ls hR hS hls h1 h2 => lv_iand hexec hb hdg (hw H locs ls hR hS hls h1 h2)⟩
    · cases h
  | ixor =>
    unfold am_step at h
    dsimp only at h hg
    subst hg
    split at h
    · obtain ⟨hF, hw⟩ := hn _ _ _ h
      exact ⟨hF, fun H locs ls hR hS hls h1 h2 => lv_ixor hexec hb hdg (hw H locs ls hR hS hls h1 h2)⟩
    · cases h
  | ineg =>
    unfold am_step at h
    dsimp only at h hg
    subst hg
    split at h
    · obtain ⟨hF, hw⟩ := hn _ _ _ h
      exact ⟨hF, fun H locs ls hR hS hls h1 h2 => lv_ineg hexec hb hdg (hw H locs ls hR hS hls h1 h2)⟩
    · cases h
  | iushr =>
    unfold am_step at h
    dsimp only at h hg
    subst hg
    split at h
    · obtain ⟨hF, hw⟩ := hn _ _ _ h
      exact ⟨hF, fun H locs ls hR hS hls h1 h2 => lv_iushr hexec hb hdg rfl (hw H locs ls hR hS hls h1 h2)⟩
    · cases h
  | idiv =>
    unfold am_step at h
    dsimp only at h hg
    subst hg
    split at h
    · split at h
      · cases h
      · rename_i hne
        obtain ⟨hF, hw⟩ := hn _ _ _ h
        exact ⟨hF, fun H locs ls hR hS hls h1 h2 => lv_idiv hexec hb hdg hne (hw H locs ls hR hS hls h1 h2)⟩
    · cases h
  | irem =>
    unfold am_step at h
    dsimp only at h hg
    subst hg
    split at h
    · split at h
      · cases h
      · rename_i hne
        obtain ⟨hF, hw⟩ := hn _ _ _ h
        exact ⟨hF, fun H locs ls hR hS hls h1 h2 => lv_irem hexec hb hdg hne (hw H locs ls hR hS hls h1 h2)⟩
    · cases h
  | dup =>
    unfold am_step at h
    dsimp only at h hg
    subst hg
    split at h
    · obtain ⟨hF, hw⟩ := hn _ _ _ h
      exact ⟨hF, fun H locs ls hR hS hls h1 h2 => lv_dup hexec hb hdg rfl (hw H locs ls hR hS hls h1 h2)⟩
    · obtain ⟨hF, hw⟩ := hn _ _ _ h
      exact ⟨hF, fun H locs ls hR hS hls h1 h2 => lv_dup hexec hb hdg rfl (hw H locs ls hR hS hls h1 h2)⟩
    · cases h
  | pop =>
    unfold am_step at h
    dsimp only at h hg
    subst hg
    split at h
    · obtain ⟨hF, hw⟩ := hn _ _ _ h
      exact ⟨hF, fun H locs ls hR hS hls h1 h2 => lv_pop hexec hb hdg rfl (hw H locs ls hR hS hls h1 h2)⟩
    · obtain ⟨hF, hw⟩ := hn _ _ _ h
      exact ⟨hF, fun H locs ls hR hS hls h1 h2 => lv_pop hexec hb hdg rfl (hw H locs ls hR hS hls h1 h2)⟩
    · cases h
  | dup2 =>
    unfold am_step at h
    dsimp only at h hg
    subst hg
    split at h
    · obtain ⟨hF, hw⟩ := hn _ _ _ h
      exact ⟨hF, fun H locs ls hR hS hls h1 h2 => lv_dup2_11 hexec hb hdg rfl rfl (hw H locs ls hR hS hls h1 h2)⟩
    · cases h
  | goto off =>
    unfold am_step at h
    dsimp only at h hg
    obtain ⟨rfl, ht⟩ := hg
    obtain ⟨hF, hw⟩ := hj _ _ _ _ h
    exact ⟨hF, fun H locs ls hR hS hls h1 h2 => lv_goto hexec hb hdg ht (hw H locs ls hR hS hls h1 h2)⟩
  | if_icmp cd off =>
    unfold am_step at h
    dsimp only at h hg
    obtain ⟨rfl, ht⟩ := hg
    split at h
    · split at h
      · rename_i hc
        obtain ⟨hF, hw⟩ := hj _ _ _ _ h
        refine ⟨hF, fun H locs ls hR hS hls h1 h2 => ?_⟩
        have hk := hw H locs ls hR hS hls h1 h2
        cases cd <;> simp only [am_cond, decide_eq_true_eq] at hc
        · exact lv_icmp_eq hexec hb hdg ht (fun _ => hk) (fun hc2 => absurd hc (by first | exact hc2 | exact fun h9 => h9 hc2))
        · exact lv_icmp_ne hexec hb hdg ht (fun _ => hk) (fun hc2 => absurd hc (by first | exact hc2 | exact fun h9 => h9 hc2))
        · exact lv_icmp_lt hexec hb hdg ht (fun _ => hk) (fun hc2 => absurd hc (by first | exact hc2 | exact fun h9 => h9 hc2))
        · exact lv_icmp_ge hexec hb hdg ht (fun _ => hk) (fun hc2 => absurd hc (by first | exact hc2 | exact fun h9 => h9 hc2))
        · exact lv_icmp_gt hexec hb hdg ht (fun _ => hk) (fun hc2 => absurd hc (by first | exact hc2 | exact fun h9 => h9 hc2))
        · exact lv_icmp_le hexec hb hdg ht (fun _ => hk) (fun hc2 => absurd hc (by first | exact hc2 | exact fun h9 => h9 hc2))
      · rename_i hc
        obtain ⟨hF, hw⟩ := hn _ _ _ h
        refine ⟨hF, fun H locs ls hR hS hls h1 h2 => ?_⟩
        have hk := hw H locs ls hR hS hls h1 h2
        cases cd <;> simp only [am_cond, decide_eq_true_eq] at hc
        · exact lv_icmp_eq hexec hb hdg ht (fun hc2 => absurd hc2 hc) (fun _ => hk)
        · exact lv_icmp_ne hexec hb hdg ht (fun hc2 => absurd hc2 hc) (fun _ => hk)
        · exact lv_icmp_lt hexec hb hdg ht (fun hc2 => absurd hc2 hc) (fun _ => hk)
        · exact lv_icmp_ge hexec hb hdg ht (fun hc2 => absurd hc2 hc) (fun _ => hk)
        · exact lv_icmp_gt hexec hb hdg ht (fun hc2 => absurd hc2 hc) (fun _ => hk)
        · exact lv_icmp_le hexec hb hdg ht (fun hc2 => absurd hc2 hc) (fun _ => hk)
    · cases h
  | ifCond cd off =>
    unfold am_step at h
    dsimp only at h hg
    obtain ⟨rfl, ht⟩ := hg
    split at h
    · split at h
      · rename_i hc
        obtain ⟨hF, hw⟩ := hj _ _ _ _ h
        refine ⟨hF, fun H locs ls hR hS hls h1 h2 => ?_⟩
        have hk := hw H locs ls hR hS hls h1 h2
        cases cd <;> simp only [am_cond, decide_eq_true_eq] at hc
        · exact lv_if_eq hexec hb hdg ht (fun _ => hk) (fun hc2 => absurd hc (by first | exact hc2 | exact fun h9 => h9 hc2))
        · exact lv_if_ne hexec hb hdg ht (fun _ => hk) (fun hc2 => absurd hc (by first | exact hc2 | exact fun h9 => h9 hc2))
        · exact lv_if_lt hexec hb hdg ht (fun _ => hk) (fun hc2 => absurd hc (by first | exact hc2 | exact fun h9 => h9 hc2))
        · exact lv_if_ge hexec hb hdg ht (fun _ => hk) (fun hc2 => absurd hc (by first | exact hc2 | exact fun h9 => h9 hc2))
        · exact lv_if_gt hexec hb hdg ht (fun _ => hk) (fun hc2 => absurd hc (by first | exact hc2 | exact fun h9 => h9 hc2))
        · exact lv_if_le hexec hb hdg ht (fun _ => hk) (fun hc2 => absurd hc (by first | exact hc2 | exact fun h9 => h9 hc2))
      · rename_i hc
        obtain ⟨hF, hw⟩ := hn _ _ _ h
        refine ⟨hF, fun H locs ls hR hS hls h1 h2 => ?_⟩
        have hk := hw H locs ls hR hS hls h1 h2
        cases cd <;> simp only [am_cond, decide_eq_true_eq] at hc
        · exact lv_if_eq hexec hb hdg ht (fun hc2 => absurd hc2 hc) (fun _ => hk)
        · exact lv_if_ne hexec hb hdg ht (fun hc2 => absurd hc2 hc) (fun _ => hk)
        · exact lv_if_lt hexec hb hdg ht (fun hc2 => absurd hc2 hc) (fun _ => hk)
        · exact lv_if_ge hexec hb hdg ht (fun hc2 => absurd hc2 hc) (fun _ => hk)
        · exact lv_if_gt hexec hb hdg ht (fun hc2 => absurd hc2 hc) (fun _ => hk)
        · exact lv_if_le hexec hb hdg ht (fun hc2 => absurd hc2 hc) (fun _ => hk)
    · cases h
  | ifnull off =>
    unfold am_step at h
    dsimp only at h hg
    obtain ⟨rfl, ht⟩ := hg
    split at h
    · obtain ⟨hF, hw⟩ := hj _ _ _ _ h
      exact ⟨hF, fun H locs ls hR hS hls h1 h2 => lv_ifnullN hexec hb hdg ht (hw H locs ls hR hS hls h1 h2)⟩
    · obtain ⟨hF, hw⟩ := hn _ _ _ h
      exact ⟨hF, fun H locs ls hR hS hls h1 h2 => lv_ifnull hexec hb hdg (hw H locs ls hR hS hls h1 h2)⟩
    · cases h
  | ifnonnull off =>
    unfold am_step at h
    dsimp only at h hg
    obtain ⟨rfl, ht⟩ := hg
    split at h
    · obtain ⟨hF, hw⟩ := hn _ _ _ h
      exact ⟨hF, fun H locs ls hR hS hls h1 h2 => lv_ifnonnullN hexec hb hdg (hw H locs ls hR hS hls h1 h2)⟩
    · obtain ⟨hF, hw⟩ := hj _ _ _ _ h
      exact ⟨hF, fun H locs ls hR hS hls h1 h2 => lv_ifnonnull hexec hb hdg ht (hw H locs ls hR hS hls h1 h2)⟩
    · cases h
  | tableswitch dflt lo hi offs =>
    unfold am_step at h
    dsimp only at h hg
    obtain ⟨hhi, hd0, hos⟩ := hg
    split at h
    · rename_i v r9
      rcases am_sw_ok (P := fun w => w = some o) _ _ _ _ h with ⟨h1, h2⟩ | ⟨i, of, h1, h2, h3⟩
      · obtain ⟨hF, hw⟩ := hj _ _ _ _ h2
        refine ⟨hF, fun H locs ls hR hS hls g1 g2 => lv_tableOut hexec hb hdg ?_ (Int.toNat_of_nonneg hd0).symm (hw H locs ls hR hS hls g1 g2)⟩
        rw [Array.length_toList] at h1
        omega
      · obtain ⟨hF, hw⟩ := hj _ _ _ _ h3
        have hm : of ∈ offs.toList := List.mem_of_getElem? h2
        have hil : i < offs.size := by rw [← Array.length_toList]; exact (List.getElem?_eq_some_iff.mp h2).1
        refine ⟨hF, fun H locs ls hR hS hls g1 g2 => lv_tableIn hexec hb hdg (by omega) (by omega) (off := of) ?_ (Int.toNat_of_nonneg (hos of hm)).symm (hw H locs ls hR hS hls g1 g2)⟩
        rw [show (v.toInt - lo).toNat = i by omega, ← Array.getElem?_toList]
        exact h2
    · cases h
  | getfield i =>
    unfold am_step at h
    dsimp only at h hg
    obtain ⟨rfl, q, hq, hy, hlk⟩ := hg
    have hlk2 : Cond.fieldLink own i (q.2.1 y).1 (q.2.1 y).2.1 (q.2.1 y).2.2.1 ∈ am_W ∨ ∃ host, va_Nw (.fieldLinkNest own i (q.2.1 y).1 (q.2.1 y).2.1 (q.2.1 y).2.2.1 host) s := hlk.imp id fun ⟨host, hh⟩ => ⟨host, hK.2.1 _ hh⟩
    split at h
    · split at h
      · obtain ⟨v, hv, h⟩ := Option.bind_eq_some_iff.mp h
        obtain ⟨fs, ho, hfv⟩ := am_geti_ok hv
        obtain ⟨hF, hw⟩ := hn _ _ _ h
        exact ⟨hF, fun H locs ls hR hS hls h1 h2 => am_w_get hexec hb hts hown hK.1 hR ho hfv hq hy hlk2 hdg (hw H locs ls hR hS hls h1 h2)⟩
      · obtain ⟨v, hv, h⟩ := Option.bind_eq_some_iff.mp h
        obtain ⟨fs, ho, hfv⟩ := am_getr_ok hv
        obtain ⟨hF, hw⟩ := hn _ _ _ h
        exact ⟨hF, fun H locs ls hR hS hls h1 h2 => am_w_get hexec hb hts hown hK.1 hR ho hfv hq hy hlk2 hdg (hw H locs ls hR hS hls h1 h2)⟩
    · cases h
  | putfield i =>
    unfold am_step at h
    dsimp only at h hg
    obtain ⟨rfl, q, ty, hq, hd, hi0, hi2, hi1, hlk⟩ := hg
    have hlk2 : ((q.2.1 y).2.2.2 = false ∧ (Cond.fieldLink own i (q.2.1 y).1 (q.2.1 y).2.1 (q.2.1 y).2.2.1 ∈ am_W ∨ ∃ host, va_Nw (.fieldLinkNest own i (q.2.1 y).1 (q.2.1 y).2.1 (q.2.1 y).2.2.1 host) s)) ∨ ((q.2.1 y).2.2.2 = true ∧ meth.name = "<init>" ∧ (q.2.1 y).1 = own ∧ Cond.fieldLink own i (q.2.1 y).1 (q.2.1 y).2.1 (q.2.1 y).2.2.1 ∈ am_W) := hlk.imp (fun ⟨g1, g2⟩ => ⟨g1, g2.imp id fun ⟨host, hh⟩ => ⟨host, hK.2.1 _ hh⟩⟩) fun ⟨g1, g2, g3⟩ => ⟨g1, hnm.trans g2, g3⟩
    split at h
    · split at h
      · rename_i hz
        have hty := hi0 hz
        subst hty
        obtain ⟨σ', hv, h⟩ := Option.bind_eq_some_iff.mp h
        obtain ⟨fs, ho, hBa, hkl, rfl⟩ := am_put_ok hv
        obtain ⟨hF, hw⟩ := hn _ _ _ h
        exact ⟨hF, fun H locs ls hR hS hls h1 h2 => am_w_put hexec hb hts hown hK.1 hR hS ho hBa hkl hq hd rfl rfl hlk2 hdg fun H1 locs1 hR1 hS1 => hw H1 locs1 ls hR1 hS1 hls h1 h2⟩
      · split at h
        · rename_i hz
          have hty := hi2 hz
          subst hty
          split at h
          · rename_i h01
            have hbo : ∀ w : Int32, w = 0 ∨ w = 1 → narrow .boolean (.int w) = .int w ∧ fits .boolean (.int w) = true := by
              intro w hw9
              rcases hw9 with rfl | rfl <;> exact ⟨rfl, rfl⟩
            obtain ⟨σ', hv, h⟩ := Option.bind_eq_some_iff.mp h
            obtain ⟨fs, ho, hBa, hkl, rfl⟩ := am_put_ok hv
            obtain ⟨hF, hw⟩ := hn _ _ _ h
            exact ⟨hF, fun H locs ls hR hS hls h1 h2 => am_w_put hexec hb hts hown hK.1 hR hS ho hBa hkl hq hd (hbo _ h01).1 (hbo _ h01).2 hlk2 hdg fun H1 locs1 hR1 hS1 => hw H1 locs1 ls hR1 hS1 hls h1 h2⟩
          · cases h
        · cases h
    · split at h
      · rename_i hz
        have hrf : ∀ a : Nat, narrow ty (.ref a) = .ref a ∧ fits ty (.ref a) = true := by
          intro a
          rcases hi1 hz with ⟨n, rfl⟩ | ⟨t, rfl⟩ <;> exact ⟨rfl, rfl⟩
        obtain ⟨σ', hv, h⟩ := Option.bind_eq_some_iff.mp h
        obtain ⟨fs, ho, hBa, hkl, rfl⟩ := am_put_ok hv
        obtain ⟨hF, hw⟩ := hn _ _ _ h
        exact ⟨hF, fun H locs ls hR hS hls h1 h2 => am_w_put hexec hb hts hown hK.1 hR hS ho hBa hkl hq hd (hrf _).1 (hrf _).2 hlk2 hdg fun H1 locs1 hR1 hS1 => hw H1 locs1 ls hR1 hS1 hls h1 h2⟩
      · cases h
    · cases h
  | getstatic i =>
    unfold am_step at h
    dsimp only at h hg
    obtain ⟨rfl, q, hq, hl⟩ := hg
    obtain ⟨hF, hw⟩ := hn _ _ _ h
    exact ⟨hF, fun H locs ls hR hS hls h1 h2 => va_gets hexec hb (hK.2.2.2 x q hq) hS hown (hts _ hl) (fun _ h9 => h9) hdg (hw H locs ls hR hS hls h1 h2)⟩
  | iaload =>
    unfold am_step at h
    dsimp only at h hg
    subst hg
    split at h
    · obtain ⟨v, hv, h⟩ := Option.bind_eq_some_iff.mp h
      obtain ⟨x9, ho, hin, rfl⟩ := am_iald_ok hv
      obtain ⟨hF, hw⟩ := hn _ _ _ h
      exact ⟨hF, fun H locs ls hR hS hls h1 h2 => am_w_iald hexec hb hR ho hin hdg (hw H locs ls hR hS hls h1 h2)⟩
    · cases h
  | iastore =>
    unfold am_step at h
    dsimp only at h hg
    subst hg
    split at h
    · obtain ⟨σ', hv, h⟩ := Option.bind_eq_some_iff.mp h
      obtain ⟨y9, ho, hBa, hin, rfl⟩ := am_iast_ok hv
      obtain ⟨hF, hw⟩ := hn _ _ _ h
      exact ⟨hF, fun H locs ls hR hS hls h1 h2 => am_w_iast hexec hb hR hS ho hBa hin hdg fun H1 locs1 hR1 hS1 => hw H1 locs1 ls hR1 hS1 hls h1 h2⟩
    · cases h
  | arraylength =>
    unfold am_step at h
    dsimp only at h hg
    subst hg
    split at h
    · unfold am_alen at h
      obtain ⟨v, hv, h⟩ := Option.bind_eq_some_iff.mp h
      obtain ⟨x9, ho, hx⟩ := Option.bind_eq_some_iff.mp hv
      cases hx
      obtain ⟨hF, hw⟩ := hn _ _ _ h
      exact ⟨hF, fun H locs ls hR hS hls h1 h2 => am_w_alen hexec hb hR ho hdg (hw H locs ls hR hS hls h1 h2)⟩
    · cases h
  | newarray ty =>
    unfold am_step at h
    dsimp only at h hg
    cases ty with
    | int =>
      dsimp only at h hg
      obtain ⟨rfl, hac⟩ := hg
      split at h
      · split at h
        · cases h
        · rename_i n r9 hcond
          obtain ⟨⟨hF1, hF2⟩, hw⟩ := hn _ _ _ h
          simp only [am_nwa] at hF1 hF2
          have hn0 : ¬ n < 0 := fun z => hcond (Or.inl z)
          have hn1 : n.toNatClampNeg ≤ 100000 := by
            have h5 : ¬ (100000 : Int32) < n := fun z => hcond (Or.inr z)
            have h6 : n.toInt ≤ 100000 := by
              have := Int32.le_iff_toInt_le.mp (Int32.not_lt.mp h5)
              simpa using this
            show n.toInt.toNat ≤ 100000
            omega
          refine ⟨⟨by omega, by omega⟩, fun H locs ls hR hS hls h1 h2 => ?_⟩
          refine am_w_newa hexec hb hts hac hR hS hn0 hn1 (by rw [hrc]; omega) (by rw [hrs]; omega) hdg fun H1 locs1 hR1 hS1 => ?_
          have := hw H1 locs1 ls hR1 hS1 hls (by simp only [am_nwa]; omega) (by simp only [am_nwa]; omega)
          simp only [am_nwa] at this
          rw [show σ.1 - σ0.1 + 1 = σ.1 + 1 - σ0.1 by omega, show σ.2.2 - σ0.2.2 + n.toNatClampNeg = σ.2.2 + n.toNatClampNeg - σ0.2.2 by omega]
          exact this
      · cases h
    | _ => cases h
  | new i =>
    unfold am_step at h
    dsimp only at h hg
    obtain ⟨rfl, q, hq, hcl2, hin2, hini, hlen, hfs⟩ := hg
    obtain ⟨⟨hF1, hF2⟩, hw⟩ := hn _ _ _ h
    simp only [am_new] at hF1 hF2
    refine ⟨⟨by omega, by omega⟩, fun H locs ls hR hS hls h1 h2 => ?_⟩
    refine am_w_new hexec hb hts hown hK.1 hR hS hq hcl2 hin2 hini hlen hfs (by rw [hrc]; omega) (by rw [hrs]; omega) hdg fun H1 locs1 hR1 hS1 => ?_
    have := hw H1 locs1 ls hR1 hS1 hls (by simp only [am_new]; omega) (by simp only [am_new]; omega)
    simp only [am_new] at this
    rw [show σ.1 - σ0.1 + 1 = σ.1 + 1 - σ0.1 by omega, show σ.2.2 - σ0.2.2 + (am_dfl x).length = σ.2.2 + (am_dfl x).length - σ0.2.2 by omega]
    exact this
  | invokespecial i =>
    unfold am_step at h
    dsimp only at h hg
    obtain ⟨rfl, hg0, hg1⟩ := hg
    split at h
    · rename_i hz
      obtain ⟨w1, w2, w3⟩ := hg0 hz
      split at h
      · split at h
        · rename_i hsm
          obtain ⟨hF, hw⟩ := hn _ _ _ h
          refine ⟨hF, fun H locs ls hR hS hls h1 h2 => W.objInit hexec hb hown (hts _ w1) (hts _ w2) (hts _ w3) rfl (by rw [hml]; exact hls.1) rfl hdg (by rw [hfr]; omega) ?_ (hw H locs ls hR hS hls h1 h2)⟩
          have := am_small_ok hsm
          show 2 * 0 + _ + 12 ≤ _
          rw [hlo]
          omega
        · cases h
      · cases h
    · rename_i hz
      obtain ⟨M, hM, hce, hret, w1, w2, w3⟩ := hg1 hz
      exact am_inv_I X0 hM hce hret w1 w2 w3 hdg h fun st' σ' h' => hn _ _ _ h'
  | invokevirtual i =>
    unfold am_step at h
    dsimp only at h hg
    obtain ⟨rfl, M, hM, hce, ⟨q, hq, hcq⟩, w1, w2, w3⟩ := hg
    exact am_inv_V X0 hM hce hq hcq w1 w2 w3 hdg h fun st' σ' h' => hn _ _ _ h'
  | invokestatic i =>
    unfold am_step at h
    dsimp only at h hg
    obtain ⟨rfl, hg5, hg6, hg7, hgM⟩ := hg
    split at h
    · rename_i hz
      obtain ⟨w1, w2, w3, w4⟩ := hg5 hz
      split at h
      · split at h
        · rename_i hsm
          obtain ⟨hF, hw⟩ := hn _ _ _ h
          have hs8 := am_small_ok hsm
          exact ⟨hF, fun H locs ls hR hS hls h1 h2 => va_mmax hexec hb (by rw [hml]; exact hls.1.symm) hown (hts _ w1) (hts _ w2) (hts _ w3) (hts _ w4) (by rw [hfr]; omega) (by rw [hlo]; omega) (by rw [hrc]; omega) (by rw [hrs]; omega) hdg (hw H locs ls hR hS hls h1 h2)⟩
        · cases h
      · cases h
    · rename_i hz5
      split at h
      · rename_i hz
        obtain ⟨w1, w2, w3, w4⟩ := hg6 hz
        split at h
        · split at h
          · rename_i hsm
            obtain ⟨hF, hw⟩ := hn _ _ _ h
            have hs8 := am_small_ok hsm
            exact ⟨hF, fun H locs ls hR hS hls h1 h2 => va_mmin hexec hb (by rw [hml]; exact hls.1.symm) hown (hts _ w1) (hts _ w2) (hts _ w3) (hts _ w4) (by rw [hfr]; omega) (by rw [hlo]; omega) (by rw [hrc]; omega) (by rw [hrs]; omega) hdg (hw H locs ls hR hS hls h1 h2)⟩
          · cases h
        · cases h
      · rename_i hz6
        split at h
        · rename_i hz
          obtain ⟨w1, w2, w3, w4⟩ := hg7 hz
          split at h
          · split at h
            · rename_i hsm
              obtain ⟨σ', hv, h⟩ := Option.bind_eq_some_iff.mp h
              obtain ⟨x9, y9, ho, ho2, hB0, hBa, k1, k2, k3, k4, k5, rfl⟩ := am_cpy_ok hv
              obtain ⟨hF, hw⟩ := hn _ _ _ h
              have hs8 := am_small_ok hsm
              refine ⟨hF, fun H locs ls hR hS hls h1 h2 => am_w_cpy hexec hb (by rw [hml]; exact hls.1.symm) hown hts w1 w2 w3 w4 hR hS ho ho2 hB0 hBa k1 k2 k3 k4 k5 (by rw [hfr]; omega) ?_ hdg fun H1 locs1 hR1 hS1 => hw H1 locs1 ls hR1 hS1 hls h1 h2⟩
              have : nativeFrameWords "java/lang/System" "arraycopy" 5 ≤ 40 := by decide +kernel
              rw [hlo]
              omega
            · cases h
          · cases h
        · rename_i hz7
          obtain ⟨M, hM, hce, w1, w2⟩ := hgM hz5 hz6 hz7
          exact am_inv_S X0 hM hce w1 w2 hdg h fun st' σ' h' => hn _ _ _ h'
  | _ => cases h
end AMV
end
section
/-! stretches, runs, calls -/
def am_chain : List am_I → Prop
  | [] => True
  | [_] => True
  | e :: e' :: r => (e.2.2.2.1 = 1 ∨ e'.1 = e.1 + e.2.2.1) ∧ am_chain (e' :: r)
theorem am_chain_suffix : ∀ {code cur : List am_I}, cur <:+ code → am_chain code → am_chain cur := by
  intro code
  induction code with
  | nil =>
    intro cur h _
    rw [List.suffix_nil.mp h]
    trivial
  | cons e r ih =>
    intro cur h hc
    rcases List.suffix_cons_iff.mp h with h | h
    · rw [h]; exact hc
    · refine ih h ?_
      cases r with
      | nil => trivial
      | cons e' r' => exact hc.2
theorem am_dw_head : ∀ {code : List am_I} {pc : Nat} {e : am_I} {r : List am_I}, code.dropWhile (fun e' => e'.1 != pc) = e :: r → e.1 = pc := by
  intro code
  induction code with
  | nil => intro pc e r h; cases h
  | cons a l ih =>
    intro pc e r h
    rw [List.dropWhile_cons] at h
    split at h
    · exact ih h
    · rename_i hne
      cases h
      simpa using hne
theorem am_keep_mem {L : am_L} : ∀ {k i : Nat} {L' : am_L}, am_keep L i k = some L' → ∀ q ∈ L', q ∈ L := by
  intro k
  induction k with
  | zero => intro i L' h q hq; cases h; cases hq
  | succ k ih =>
    intro i L' h q hq
    unfold am_keep at h
    obtain ⟨v, hv, h⟩ := Option.bind_eq_some_iff.mp h
    obtain ⟨r, hr, h⟩ := Option.bind_eq_some_iff.mp h
    cases h
    rcases List.mem_cons.mp hq with rfl | hq
    · exact am_lk_mem hv
    · exact ih hr q hq
/-- the heap only grows -/
def am_le (σ σ' : am_S) : Prop := σ.1 ≤ σ'.1 ∧ σ.2.2 ≤ σ'.2.2
theorem am_le.rf {σ : am_S} : am_le σ σ := ⟨Nat.le_refl _, Nat.le_refl _⟩
theorem am_le.tr {a b c : am_S} (h : am_le a b) (k : am_le b c) : am_le a c := ⟨Nat.le_trans h.1 k.1, Nat.le_trans h.2 k.2⟩
theorem am_put_le {B : Nat} {σ σ' : am_S} {a ci k : Nat} {v : Value} (h : am_put B σ a ci k v = some σ') : am_le σ σ' := by
  obtain ⟨fs, -, -, -, rfl⟩ := am_put_ok h
  exact am_le.rf
theorem am_iast_le {B : Nat} {σ σ' : am_S} {a : Nat} {i v : Int32} (h : am_iast B σ a i v = some σ') : am_le σ σ' := by
  obtain ⟨y, -, -, -, rfl⟩ := am_iast_ok h
  exact am_le.rf
theorem am_cpy_le {B : Nat} {σ σ' : am_S} {a0 a : Nat} {sp dp n : Int32} (h : am_cpy B σ a0 sp a dp n = some σ') : am_le σ σ' := by
  obtain ⟨x, y, -, -, -, -, -, -, -, -, -, rfl⟩ := am_cpy_ok h
  exact am_le.rf
section AMM
variable {B : Nat} {sa : Nat → Nat} {dfl : Nat → List Value} {cl : am_F}
set_option maxHeartbeats 4000000 in
theorem am_step_mono {α : Type} (hcl : ∀ mi as σ v σ', cl mi as σ = some (v, σ') → am_le σ σ') {r : am_I} {L : am_L} {st : List Value} {σ : am_S} {nx : am_L → List Value → am_S → Option α} {jp : Nat → am_L → List Value → am_S → Option α} {o : α} {P : Prop}
    (h : am_step B sa dfl cl r L st σ nx jp = some o) (hn : ∀ L' st' σ', am_le σ σ' → nx L' st' σ' = some o → P) (hj : ∀ pc' L' st' σ', am_le σ σ' → jp pc' L' st' σ' = some o → P) : P := by
  have hback : ∀ {kind : Nat} {mi : Nat} {as : List Value} {rest : List Value}, am_back kind (cl mi as σ) rest (nx L) = some o → P := by
    intro kind mi as rest h
    obtain ⟨v, σ', hr, hnx⟩ := am_back_ok h
    exact hn _ _ _ (hcl _ _ _ _ _ hr) hnx
  obtain ⟨pc, ins, len, stop, x, y, z⟩ := r
  cases ins with
  | getfield i =>
    unfold am_step at h
    dsimp only at h
    split at h
    · split at h
      · obtain ⟨v, hv, h⟩ := Option.bind_eq_some_iff.mp h
        exact hn _ _ _ am_le.rf h
      · obtain ⟨v, hv, h⟩ := Option.bind_eq_some_iff.mp h
        exact hn _ _ _ am_le.rf h
    · cases h
  | putfield i =>
    unfold am_step at h
    dsimp only at h
    split at h
    · split at h
      · obtain ⟨v, hv, h⟩ := Option.bind_eq_some_iff.mp h
        exact hn _ _ _ (am_put_le hv) h
      · split at h
        · split at h
          · obtain ⟨v, hv, h⟩ := Option.bind_eq_some_iff.mp h
            exact hn _ _ _ (am_put_le hv) h
          · cases h
        · cases h
    · split at h
      · obtain ⟨v, hv, h⟩ := Option.bind_eq_some_iff.mp h
        exact hn _ _ _ (am_put_le hv) h
      · cases h
    · cases h
  | iaload =>
    unfold am_step at h
    dsimp only at h
    split at h
    · obtain ⟨v, hv, h⟩ := Option.bind_eq_some_iff.mp h
      exact hn _ _ _ am_le.rf h
    · cases h
  | arraylength =>
    unfold am_step at h
    dsimp only at h
    split at h
    · obtain ⟨v, hv, h⟩ := Option.bind_eq_some_iff.mp h
      exact hn _ _ _ am_le.rf h
    · cases h
  | iastore =>
    unfold am_step at h
    dsimp only at h
    split at h
    · obtain ⟨v, hv, h⟩ := Option.bind_eq_some_iff.mp h
      exact hn _ _ _ (am_iast_le hv) h
    · cases h
  | newarray ty =>
    unfold am_step at h
    dsimp only at h
    cases ty with
    | int =>
      dsimp only at h
      split at h
      · split at h
        · cases h
        · exact hn _ _ _ ⟨Nat.le_succ _, Nat.le_add_right _ _⟩ h
      · cases h
    | _ => cases h
  | new i =>
    unfold am_step at h
    dsimp only at h
    exact hn _ _ _ ⟨Nat.le_succ _, Nat.le_add_right _ _⟩ h
  | tableswitch dflt lo hi offs =>
    unfold am_step at h
    dsimp only at h
    split at h
    · rcases am_sw_ok (P := fun w => w = some o) _ _ _ _ h with ⟨h1, h2⟩ | ⟨i, of, h1, h2, h3⟩
      · exact hj _ _ _ _ am_le.rf h2
      · exact hj _ _ _ _ am_le.rf h3
    · cases h
  | invokespecial i =>
    unfold am_step at h
    dsimp only at h
    split at h
    · split at h
      · split at h
        · exact hn _ _ _ am_le.rf h
        · cases h
      · cases h
    · unfold am_invI at h
      split at h
      · cases h
      · split at h
        · split at h
          · exact hback h
          · cases h
        · cases h
  | invokevirtual i =>
    unfold am_step at h
    dsimp only at h
    unfold am_invV at h
    split at h
    · cases h
    · split at h
      · split at h
        · obtain ⟨v, hv, h⟩ := Option.bind_eq_some_iff.mp h
          exact hback h
        · cases h
      · cases h
  | invokestatic i =>
    unfold am_step at h
    dsimp only at h
    split at h
    · split at h
      · split at h
        · exact hn _ _ _ am_le.rf h
        · cases h
      · cases h
    · split at h
      · split at h
        · split at h
          · exact hn _ _ _ am_le.rf h
          · cases h
        · cases h
      · split at h
        · split at h
          · split at h
            · obtain ⟨v, hv, h⟩ := Option.bind_eq_some_iff.mp h
              exact hn _ _ _ (am_cpy_le hv) h
            · cases h
          · cases h
        · unfold am_inv at h
          split at h
          · cases h
          · split at h
            · exact hback h
            · cases h
  | _ =>
    unfold am_step at h
    dsimp only at h
    repeat' (first | exact hn _ _ _ am_le.rf h | exact hj _ _ _ _ am_le.rf h | (cases h; done) | split at h)
theorem am_blk_mono (hcl : ∀ mi as σ v σ', cl mi as σ = some (v, σ') → am_le σ σ') {code : List am_I} : ∀ (g : Nat) (cur : List am_I) (L : am_L) (st : List Value) (σ : am_S) (o : am_O), am_blk B sa dfl cl code g cur L st σ = some o → am_le σ o.2.2.2 := by
  intro g
  induction g with
  | zero => intro cur L st σ o h; cases h
  | succ g ih =>
    intro cur L st σ o h
    cases cur with
    | nil => cases h
    | cons e rest =>
      unfold am_blk at h
      refine am_step_mono hcl h (fun L' st' σ' hle hx => ?_) (fun pc' L' st' σ' hle hx => ?_)
      · split at hx
        · cases hx
        · split at hx
          · exact hle.tr (ih _ _ _ _ _ hx)
          · cases hx; exact hle
      · split at hx
        · cases hx
        · split at hx
          · exact hle.tr (ih _ _ _ _ _ hx)
          · cases hx; exact hle
theorem am_exec_mono (hcl : ∀ mi as σ v σ', cl mi as σ = some (v, σ') → am_le σ σ') {code : List am_I} : ∀ (f pc : Nat) (L : am_L) (σ : am_S) (o : Nat × List Value × am_S), am_exec B sa dfl cl code f pc L σ = some o → am_le σ o.2.2 := by
  intro f
  induction f with
  | zero => intro pc L σ o h; cases h
  | succ f ih =>
    intro pc L σ o h
    unfold am_exec at h
    obtain ⟨o', ho, h⟩ := Option.bind_eq_some_iff.mp h
    have hm := am_blk_mono hcl _ _ _ _ _ _ ho
    split at h
    · cases h
    · split at h
      · cases h; exact hm
      · split at h
        · obtain ⟨L', -, h⟩ := Option.bind_eq_some_iff.mp h
          exact hm.tr (ih _ _ _ _ h)
        · cases h
theorem am_end_st {code : List am_I} {o : Nat × List Value × am_S} {q : Option Value × am_S} (h : am_end code o = some q) : q.2 = o.2.2 := by
  unfold am_end at h
  split at h
  · cases h
  · split at h
    · split at h
      · cases h; rfl
      · cases h
    · cases h; rfl
    · cases h; rfl
    · cases h; rfl
    · cases h
theorem am_call_mono {tb : Nat → Option am_M} {f : Nat} : ∀ (d mi : Nat) (as : List Value) (σ : am_S) (v : Option Value) (σ' : am_S), am_call B sa dfl tb f d mi as σ = some (v, σ') → am_le σ σ' := by
  intro d
  induction d with
  | zero => intro mi as σ v σ' h; cases h
  | succ d ih =>
    intro mi as σ v σ' h
    unfold am_call at h
    obtain ⟨M, -, h⟩ := Option.bind_eq_some_iff.mp h
    split at h
    · cases h
    · obtain ⟨o, ho, h⟩ := Option.bind_eq_some_iff.mp h
      have h1 := am_exec_mono ih _ _ _ _ _ ho
      have h2 := am_end_st h
      dsimp only at h2
      rw [h2]
      exact h1
end AMM
end
section
/-! THE SOUNDNESS of the abstract machine: what it computes of a method, the machine does -/
/-- what is checked of a row that ends a method -/
def am_term (cc : ByteArray) (ret : Option FieldType) (r : am_I) : Prop := match r.2.1 with
  | .ireturn => decode cc r.1 = .ok (.ireturn, 1) ∧ (r.2.2.2.2.1 = 0 → ret = some .int) ∧ (r.2.2.2.2.1 ≠ 0 → ret = some .boolean)
  | .areturn => decode cc r.1 = .ok (.areturn, 1) ∧ ∃ rt, ret = some rt ∧ ((∃ n, rt = .object n) ∨ ∃ t, rt = .array t)
  | .return_ => decode cc r.1 = .ok (.return_, 1) ∧ ret = none
  | _ => True
/-- what is checked of a method -/
def am_okM (tb : Nat → Option am_M) (M : am_M) : Prop :=
  (∀ r ∈ M.2.2.2.2, r.2.2.2.1 ≠ 1 → am_good tb M.1.cls M.1.name M.2.2.1 M.2.1 r) ∧ (∀ r ∈ M.2.2.2.2, r.2.2.2.1 = 1 → am_term M.2.1 M.2.2.2.1 r) ∧ am_chain M.2.2.2.2 ∧ (∀ e r, M.2.2.2.2.dropWhile (fun e' => e'.1 != 0) = e :: r → e.2.2.2.1 ≠ 1) ∧ plainName M.1.cls = true
theorem am_exec_stop {B : Nat} {sa : Nat → Nat} {dfl : Nat → List Value} {cl : am_F} {code : List am_I} : ∀ (f pc : Nat) (L : am_L) (σ : am_S) (o : Nat × List Value × am_S), am_exec B sa dfl cl code f pc L σ = some o → ∃ e r, code.dropWhile (fun e' => e'.1 != o.1) = e :: r ∧ e.2.2.2.1 = 1 := by
  intro f
  induction f with
  | zero => intro pc L σ o h; cases h
  | succ f ih =>
    intro pc L σ o h
    unfold am_exec at h
    obtain ⟨o', ho, h⟩ := Option.bind_eq_some_iff.mp h
    split at h
    · cases h
    · rename_i e' r' hd
      split at h
      · rename_i h1
        cases h
        exact ⟨e', r', hd, h1⟩
      · split at h
        · obtain ⟨L', -, h⟩ := Option.bind_eq_some_iff.mp h
          exact ih _ _ _ _ h
        · cases h
section AMZ
variable {p : Program} {l : Launch} {e : Env} {R : Room} {s : State} {m : MethodId} {args : Array Value} {below : List Frame} {meth : Method} {c : Code} {Q : State → Prop} {D : va_G} {B : Nat} {sa : Nat → Nat} {cc : ByteArray} {nL d : Nat} {own nm : String} {σ0 σF : am_S} {tb : Nat → Option am_M} {cl : am_F}
theorem am_blk_ok (X : am_X p l R s m args meth c D B sa cc nL d own nm σ0 σF tb cl) {code : List am_I} (hgood : ∀ r ∈ code, r.2.2.2.1 ≠ 1 → am_good tb own nm nL cc r) (hch : am_chain code) (o : am_O) (hstop : am_Gd p l e R s m args below meth c Q D B nL σ0 σF o.1 o.2.1 o.2.2.1 o.2.2.2) :
    ∀ (g : Nat) (a : am_I) (rest : List am_I) (L : am_L) (st : List Value) (σ : am_S), (a :: rest) <:+ code → a.2.2.2.1 ≠ 1 → am_blk B sa am_dfl cl code g (a :: rest) L st σ = some o → am_Gd p l e R s m args below meth c Q D B nL σ0 σF a.1 L st σ := by
  intro g
  induction g with
  | zero => intro a rest L st σ _ _ h; cases h
  | succ g ih =>
    intro a rest L st σ hsuf hns h
    unfold am_blk at h
    have hmem : a ∈ code := hsuf.subset List.mem_cons_self
    refine am_step_ok X (hgood a hmem hns) h (fun L' st' σ' hx => ?_) (fun pc' L' st' σ' hx => ?_)
    · split at hx
      · cases hx
      · rename_i e' r'
        have hc1 := (am_chain_suffix hsuf hch).1
        have hpc : e'.1 = a.1 + a.2.2.1 := hc1.resolve_left hns
        split at hx
        · rename_i hz
          have := ih e' r' L' st' σ' ((List.suffix_cons _ _).trans hsuf) (by rw [hz]; decide) hx
          rw [hpc] at this
          exact this
        · cases hx
          rw [← hpc]
          exact hstop
    · split at hx
      · cases hx
      · rename_i e' r' hd
        have hpc := am_dw_head hd
        split at hx
        · rename_i hz
          have hsuf2 : (e' :: r') <:+ code := by rw [← hd]; exact List.dropWhile_suffix _
          have := ih e' r' L' st' σ' hsuf2 (by rw [hz]; decide) hx
          rw [hpc] at this
          exact this
        · cases hx
          rw [← hpc]
          exact hstop
theorem am_exec_ok (X : am_X p l R s m args meth c D B sa cc nL d own nm σ0 σF tb cl) {code : List am_I} (hgood : ∀ r ∈ code, r.2.2.2.1 ≠ 1 → am_good tb own nm nL cc r) (hch : am_chain code) (o : Nat × List Value × am_S) (hend : ∀ L', am_Gd p l e R s m args below meth c Q D B nL σ0 σF o.1 L' o.2.1 o.2.2) :
    ∀ (f pc : Nat) (L : am_L) (σ : am_S), (∀ e r, code.dropWhile (fun e' => e'.1 != pc) = e :: r → e.2.2.2.1 ≠ 1) → am_exec B sa am_dfl cl code f pc L σ = some o → am_Gd p l e R s m args below meth c Q D B nL σ0 σF pc L [] σ := by
  intro f
  induction f with
  | zero => intro pc L σ _ h; cases h
  | succ f ih =>
    intro pc L σ hns h
    unfold am_exec at h
    obtain ⟨o', ho, h⟩ := Option.bind_eq_some_iff.mp h
    cases hd : code.dropWhile (fun e' => e'.1 != pc) with
    | nil =>
      rw [hd] at ho
      cases hlen : code.length with
      | zero => rw [hlen] at ho; cases ho
      | succ n => rw [hlen] at ho; cases ho
    | cons a rest =>
      rw [hd] at ho
      have hpc := am_dw_head hd
      have hsuf : (a :: rest) <:+ code := by rw [← hd]; exact List.dropWhile_suffix _
      have key : am_Gd p l e R s m args below meth c Q D B nL σ0 σF o'.1 o'.2.1 o'.2.2.1 o'.2.2.2 := by
        split at h
        · cases h
        · rename_i e' r' hd2
          split at h
          · cases h
            exact hend _
          · rename_i hne
            split at h
            · rename_i hst
              obtain ⟨L', hk, h⟩ := Option.bind_eq_some_iff.mp h
              have h3 := ih _ _ _ (fun e2 r2 h2 => by rw [hd2] at h2; cases h2; exact hne) h
              refine ⟨h3.1, fun H locs ls hR hS hls h1 h2 => ?_⟩
              rw [hst]
              exact h3.2 H locs ls hR hS ⟨hls.1, hls.2.1, fun q hq => hls.2.2 q (am_keep_mem hk q hq)⟩ h1 h2
            · cases h
      have := am_blk_ok X hgood hch o' key _ a rest L [] σ hsuf (hns a rest hd) ho
      rw [hpc] at this
      exact this
set_option maxHeartbeats 4000000 in
theorem am_call_ok (l : Launch) (D : va_G) (B : Nat) (sa : Nat → Nat) (tb : Nat → Option am_M) (hok : ∀ mi M, tb mi = some M → am_okM tb M) (f : Nat) : ∀ (d mi : Nat) (as : List Value) (σ : am_S) (v : Option Value) (σ' : am_S), am_call B sa am_dfl tb f d mi as σ = some (v, σ') → ∀ M, tb mi = some M → am_Ct l D B sa M d as σ v σ' := by
  intro d
  induction d with
  | zero => intro mi as σ v σ' h; cases h
  | succ d ih =>
    intro mi as σ v σ' h M hM
    unfold am_call at h
    rw [hM] at h
    simp only [Option.bind_some] at h
    split at h
    · cases h
    · rename_i hlen
      obtain ⟨o, ho, hend⟩ := Option.bind_eq_some_iff.mp h
      obtain ⟨hgood, hterm, hch, hfirst, hplain⟩ := hok mi M hM
      unfold am_Ct
      refine Met.ofW (cc := M.2.1) (maxL := M.2.2.1) (ret := M.2.2.2.1) hplain rfl ?_
      intro p e s m args below meth c s₁ Bd hml hv
      obtain ⟨rfl, hR, hK⟩ := hv
      have hexec := Bd.exec
      have hb := Bd.bytes
      have hr := Bd.returns
      have hlocks := Bd.notSynchronized
      have hts0 := atoms_spec (ws := .code M.1 M.2.1 M.2.2.1 M.2.2.2.1 :: am_W) Bd.pre
      have hts : ∀ w ∈ am_W, w.before as.toArray s = true := fun w hw => hts0 w (List.mem_cons_of_mem _ hw)
      have hown : s.vm.findClass M.1.cls = some m.cls := findClass_of_methodNamed Bd.named
      have hnm : meth.name = M.1.name := (name_of_methodNamed Bd.named Bd.method).1
      have hst := am_end_st hend
      dsimp only at hst
      have X : am_X p l (headSpec (.code M.1 M.2.1 M.2.2.1 M.2.2.2.1 :: am_W) { frames := d + 1, cells := σ'.1 - σ.1, slots := σ'.2.2 - σ.2.2, locals := 64 * (d + 1) }).room s m as.toArray meth c D B sa M.2.1 M.2.2.1 d M.1.cls M.1.name σ σ' tb (am_call B sa am_dfl tb f d) :=
        ⟨⟨hexec, hb, hml, hown, hnm⟩, hts, hK, ⟨rfl, rfl, rfl, rfl⟩, fun mi as σ v σ' h => ⟨am_call_mono d mi as σ v σ' h, ih mi as σ v σ' h⟩⟩
      have hl := lv_entry as (n := M.2.2.1) (Nat.not_lt.mp hlen)
      rw [lg_entry_eq]
      have hG := am_exec_ok (e := e) (below := below) (Q := MQ below (am_Post D B σ' v) as.toArray s (σ'.1 - σ.1) (σ'.2.2 - σ.2.2) (fun q => B ≤ q)) X hgood hch o ?_ f 0 (lv_args 0 as) σ hfirst ho
      · have := hG.2 s.heap [] _ hR va_S.rf hl (Nat.le_refl _) (Nat.le_refl _)
        rw [Nat.sub_self, Nat.sub_self] at this
        exact this
      · intro L'
        refine ⟨by rw [← hst]; exact ⟨Nat.le_refl _, Nat.le_refl _⟩, fun H locs ls hR1 hS1 hls h1 h2 => ?_⟩
        rw [← hst] at hR1 ⊢
        have post : ∀ t : State, t.heap = H → s.WarmedH t.vm → am_Post D B σ' v as.toArray s (.returned v) t := fun t ht hW => ⟨rfl, by rw [ht]; exact hR1.moved hW.alike, hS1.F ht⟩
        unfold am_end at hend
        split at hend
        · cases hend
        · rename_i e' r' hd
          have hpc := am_dw_head hd
          have hmem : e' ∈ M.2.2.2.2 := (List.dropWhile_suffix (l := M.2.2.2.2) (fun e' => e'.1 != o.1)).subset (by rw [hd]; exact List.mem_cons_self)
          have hone : e'.2.2.2.1 = 1 := by
            obtain ⟨e2, r2, h2, h3⟩ := am_exec_stop _ _ _ _ _ ho
            rw [hd] at h2
            cases h2
            exact h3
          have htm := hterm e' hmem hone
          unfold am_term at htm
          split at hend
          · rename_i v9 hi hs
            split at hend
            · rename_i hv9
              cases hend
              rw [hi] at htm
              obtain ⟨hdg, hint, hboo⟩ := htm
              rw [hs, ← hpc]
              by_cases hx : e'.2.2.2.2.1 = 0
              · exact W.iret hexec hb (hr.trans (hint hx)) post hS1.2.2 hdg
              · have h01 : v9 = 0 ∨ v9 = 1 := hv9.resolve_left hx
                exact W.zret (ty := .boolean) hexec hb (hr.trans (hboo hx)) (by rcases h01 with rfl | rfl <;> rfl) post hS1.2.2 hdg
            · cases hend
          · rename_i a9 hi hs
            cases hend
            rw [hi] at htm
            obtain ⟨hdg, rt, hrt, hk⟩ := htm
            rw [hs, ← hpc]
            exact W.aret hexec hb (hr.trans hrt) hk (Or.inr ⟨_, rfl⟩) post hS1.2.2 hdg
          · rename_i hi hs
            cases hend
            rw [hi] at htm
            obtain ⟨hdg, rt, hrt, hk⟩ := htm
            rw [hs, ← hpc]
            exact W.aret hexec hb (hr.trans hrt) hk (Or.inl rfl) post hS1.2.2 hdg
          · rename_i hi hs
            cases hend
            rw [hi] at htm
            obtain ⟨hdg, hrt⟩ := htm
            rw [hs, ← hpc]
            exact W.vret hexec hb (hr.trans hrt) post hS1.2.2 hdg
          · cases hend
end AMZ
end
