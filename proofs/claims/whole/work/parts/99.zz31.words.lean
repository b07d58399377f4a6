/-! THROWS: the words that they need -/
def tw_E : Nat → String := fun i => match i with
  | 0 => "java/lang/IndexOutOfBoundsException"
  | 1 => "java/lang/IllegalArgumentException"
  | _ => "java/lang/IllegalStateException"
def tw_N : List String := ["java/lang/RuntimeException", "java/lang/Exception"]
def tw_C : Nat → Nat := fun i => match i with
  | 0 => 113
  | 1 => 147
  | _ => 164
def tw_I : Nat → Nat := fun i => match i with
  | 0 => 109
  | 1 => 143
  | _ => 160
def tw_B : List Cond := [.declares (Bundle.initS "java/lang/RuntimeException"), .declares (Bundle.initS "java/lang/Exception"), .declares (Bundle.initS Bundle.tN), .castable (tw_E 0) (tw_E 0), .castable (tw_E 1) (tw_E 1), .castable (tw_E 2) (tw_E 2)]
set_option maxRecDepth 100000 in
theorem xw_0 : ∀ w ∈ (vx_atS RX8 (tw_C 0) (tw_E 0) tw_N).filter goodWord, w ∈ am_W := am_ins _ [(1, 14), (4, 116), (4, 125), (4, 129), (4, 132), (4, 134), (4, 117), (4, 118), (1, 26), (1, 27), (4, 119), (4, 124), (4, 130), (4, 150), (4, 106), (4, 151), (4, 108), (4, 152), (4, 110), (4, 120), (4, 122), (4, 112), (4, 146), (4, 147), (4, 149), (4, 112), (4, 137), (4, 138), (4, 139), (4, 140), (4, 140), (4, 141), (4, 142), (4, 143), (4, 143), (4, 144), (4, 145), (4, 146), (4, 136), (4, 95), (4, 103), (4, 104), (4, 105), (4, 107), (4, 109), (4, 111), (4, 115), (4, 114), (4, 113)] (by decide +kernel) (by decide +kernel)
set_option maxRecDepth 100000 in
theorem xb_0 : ∀ w ∈ (vx_atS RX8 (tw_C 0) (tw_E 0) tw_N).filter (fun w => !goodWord w), w ∈ tw_B := by decide +kernel
set_option maxRecDepth 100000 in
theorem xo_0 : ∀ w ∈ Cond.classLink RX8 (tw_I 0) (tw_E 0) :: Cond.initialized (tw_E 0) :: vx_atS RX8 (tw_C 0) (tw_E 0) tw_N, vx_ot w = true := by decide +kernel
theorem xl_0 : Cond.classLink RX8 (tw_I 0) (tw_E 0) ∈ am_W ∧ Cond.initialized (tw_E 0) ∈ am_W := ⟨am_in (q := (4, 94)) (by decide +kernel) (by decide +kernel), am_in (q := (1, 17)) (by decide +kernel) (by decide +kernel)⟩
theorem xf_0 : Bundle.fit (tw_E 0) = true := by decide +kernel
set_option maxRecDepth 100000 in
theorem xw_1 : ∀ w ∈ (vx_atS RX8 (tw_C 1) (tw_E 1) tw_N).filter goodWord, w ∈ am_W := am_ins _ [(1, 14), (4, 116), (4, 125), (4, 129), (4, 132), (4, 134), (4, 117), (4, 118), (1, 26), (1, 27), (4, 119), (4, 124), (4, 130), (4, 150), (4, 106), (4, 151), (4, 108), (4, 152), (4, 110), (4, 120), (4, 122), (4, 112), (4, 146), (4, 147), (4, 149), (4, 112), (4, 212), (4, 213), (4, 214), (4, 140), (4, 140), (4, 141), (4, 142), (4, 143), (4, 143), (4, 144), (4, 145), (4, 146), (4, 211), (4, 202), (4, 204), (4, 127), (4, 205), (4, 206), (4, 207), (4, 208), (4, 115), (4, 114), (4, 209)] (by decide +kernel) (by decide +kernel)
set_option maxRecDepth 100000 in
theorem xb_1 : ∀ w ∈ (vx_atS RX8 (tw_C 1) (tw_E 1) tw_N).filter (fun w => !goodWord w), w ∈ tw_B := by decide +kernel
set_option maxRecDepth 100000 in
theorem xo_1 : ∀ w ∈ Cond.classLink RX8 (tw_I 1) (tw_E 1) :: Cond.initialized (tw_E 1) :: vx_atS RX8 (tw_C 1) (tw_E 1) tw_N, vx_ot w = true := by decide +kernel
theorem xl_1 : Cond.classLink RX8 (tw_I 1) (tw_E 1) ∈ am_W ∧ Cond.initialized (tw_E 1) ∈ am_W := ⟨am_in (q := (4, 201)) (by decide +kernel) (by decide +kernel), am_in (q := (1, 18)) (by decide +kernel) (by decide +kernel)⟩
theorem xf_1 : Bundle.fit (tw_E 1) = true := by decide +kernel
set_option maxRecDepth 100000 in
theorem xw_2 : ∀ w ∈ (vx_atS RX8 (tw_C 2) (tw_E 2) tw_N).filter goodWord, w ∈ am_W := am_ins _ [(1, 14), (4, 116), (4, 125), (4, 129), (4, 132), (4, 134), (4, 117), (4, 118), (1, 26), (1, 27), (4, 119), (4, 124), (4, 130), (4, 150), (4, 106), (4, 151), (4, 108), (4, 152), (4, 110), (4, 120), (4, 122), (4, 112), (4, 146), (4, 147), (4, 149), (4, 112), (5, 0), (5, 1), (5, 2), (4, 140), (4, 140), (4, 141), (4, 142), (4, 143), (4, 143), (4, 144), (4, 145), (4, 146), (4, 239), (4, 230), (4, 232), (4, 128), (4, 233), (4, 234), (4, 235), (4, 236), (4, 115), (4, 114), (4, 237)] (by decide +kernel) (by decide +kernel)
set_option maxRecDepth 100000 in
theorem xb_2 : ∀ w ∈ (vx_atS RX8 (tw_C 2) (tw_E 2) tw_N).filter (fun w => !goodWord w), w ∈ tw_B := by decide +kernel
set_option maxRecDepth 100000 in
theorem xo_2 : ∀ w ∈ Cond.classLink RX8 (tw_I 2) (tw_E 2) :: Cond.initialized (tw_E 2) :: vx_atS RX8 (tw_C 2) (tw_E 2) tw_N, vx_ot w = true := by decide +kernel
theorem xl_2 : Cond.classLink RX8 (tw_I 2) (tw_E 2) ∈ am_W ∧ Cond.initialized (tw_E 2) ∈ am_W := ⟨am_in (q := (4, 229)) (by decide +kernel) (by decide +kernel), am_in (q := (1, 19)) (by decide +kernel) (by decide +kernel)⟩
theorem xf_2 : Bundle.fit (tw_E 2) = true := by decide +kernel
theorem xf_N : ∀ n ∈ tw_N, Bundle.fit n = true := by decide +kernel
theorem tw_3 {i : Nat} (h : i < 3) : i = 0 ∨ i = 1 ∨ i = 2 := by omega
/-- all that a throw of the class i needs of the tables -/
theorem tw_ok {i : Nat} (h : i < 3) : (∀ w ∈ (vx_atS RX8 (tw_C i) (tw_E i) tw_N).filter goodWord, w ∈ am_W) ∧ (∀ w ∈ (vx_atS RX8 (tw_C i) (tw_E i) tw_N).filter (fun w => !goodWord w), w ∈ tw_B) ∧ (∀ w ∈ Cond.classLink RX8 (tw_I i) (tw_E i) :: Cond.initialized (tw_E i) :: vx_atS RX8 (tw_C i) (tw_E i) tw_N, vx_ot w = true) ∧ (Cond.classLink RX8 (tw_I i) (tw_E i) ∈ am_W ∧ Cond.initialized (tw_E i) ∈ am_W) ∧ Bundle.fit (tw_E i) = true := by
  rcases tw_3 h with rfl | rfl | rfl
  · exact ⟨xw_0, xb_0, xo_0, xl_0, xf_0⟩
  · exact ⟨xw_1, xb_1, xo_1, xl_1, xf_1⟩
  · exact ⟨xw_2, xb_2, xo_2, xl_2, xf_2⟩
theorem tw_B_tbl : ∀ w ∈ tw_B, w ∈ lw_tbl := by
  intro w hw
  simp only [tw_B, List.mem_cons, List.not_mem_nil, or_false] at hw
  rcases hw with rfl | rfl | rfl | rfl | rfl | rfl
  · exact am_wd_in (q := (4, 98)) (by decide +kernel)
  · exact am_wd_in (q := (4, 100)) (by decide +kernel)
  · exact am_wd_in (q := (4, 102)) (by decide +kernel)
  · exact am_wd_in (q := (4, 96)) (by decide +kernel)
  · exact am_wd_in (q := (4, 203)) (by decide +kernel)
  · exact am_wd_in (q := (4, 231)) (by decide +kernel)
def tw_T : Nat → Option (Nat × String) := fun i => match i with
  | 0 => some (111, "there is no such sequent")
  | 1 => some (123, "there is no such symbol")
  | 2 => some (134, "there is no such symbol of a type")
  | 3 => some (145, "sequents can't be cut there")
  | 4 => some (162, "the sequent has hypotheses")
  | _ => none
theorem tw_T_tbl : ∀ i x, tw_T i = some x → Cond.stringRef RX8 x.1 x.2 ∈ lw_tbl := by
  intro i x h
  match i, h with
  | 0, h => cases h; exact am_wd_in (q := (4, 135)) (by decide +kernel)
  | 1, h => cases h; exact am_wd_in (q := (4, 176)) (by decide +kernel)
  | 2, h => cases h; exact am_wd_in (q := (4, 184)) (by decide +kernel)
  | 3, h => cases h; exact am_wd_in (q := (4, 210)) (by decide +kernel)
  | 4, h => cases h; exact am_wd_in (q := (4, 238)) (by decide +kernel)
  | i + 5, h => cases h
theorem tw_S_tbl : Cond.laysStatic Bundle.tN "UNASSIGNED_STACK" Bundle.steD ∈ lw_tbl ∧ Cond.laysStatic Bundle.tN "SUPPRESSED_SENTINEL" Bundle.listD ∈ lw_tbl ∧ Cond.initialized Bundle.tN ∈ lw_tbl := ⟨am_wd_in (q := (4, 121)) (by decide +kernel), am_wd_in (q := (4, 123)) (by decide +kernel), am_wd_in (q := (1, 14)) (by decide +kernel)⟩
/-! THE LAW: its words -/
theorem lk_106 : Cond.methodLink RL 35 am_m106.1 ∈ am_W := am_in (q := (1, 22)) (by decide +kernel) (by decide +kernel)
theorem lk_121 : Cond.methodLink RL 38 am_m121.1 ∈ am_W := am_in (q := (5, 16)) (by decide +kernel) (by decide +kernel)
theorem lk_107 : Cond.methodLink RL 39 am_m107.1 ∈ am_W := am_in (q := (2, 122)) (by decide +kernel) (by decide +kernel)
theorem lk_185 : Cond.methodLink RL 43 am_m185.1 ∈ am_W := am_in (q := (5, 205)) (by decide +kernel) (by decide +kernel)
theorem lk_108 : Cond.methodLink RL 44 am_m108.1 ∈ am_W := am_in (q := (2, 130)) (by decide +kernel) (by decide +kernel)
theorem lk_188 : Cond.methodLink RL 48 am_m188.1 ∈ am_W := am_in (q := (5, 209)) (by decide +kernel) (by decide +kernel)
theorem lk_109 : Cond.methodLink RL 49 am_m109.1 ∈ am_W := am_in (q := (4, 77)) (by decide +kernel) (by decide +kernel)
theorem lk_189 : Cond.methodLink RL 52 am_m189.1 ∈ am_W := am_in (q := (6, 209)) (by decide +kernel) (by decide +kernel)
theorem lk_110 : Cond.methodLink RL 53 am_m110.1 ∈ am_W := am_in (q := (4, 81)) (by decide +kernel) (by decide +kernel)
theorem lk_190 : Cond.methodLink RL 56 am_m190.1 ∈ am_W := am_in (q := (6, 213)) (by decide +kernel) (by decide +kernel)
theorem lk_191 : Cond.methodLink RL 62 am_m191.1 ∈ am_W := am_in (q := (6, 217)) (by decide +kernel) (by decide +kernel)
theorem lk_122 : Cond.methodLink RL 63 am_m122.1 ∈ am_W := am_in (q := (5, 201)) (by decide +kernel) (by decide +kernel)
theorem lk_194 : Cond.methodLink RL 69 am_m194.1 ∈ am_W := am_in (q := (6, 221)) (by decide +kernel) (by decide +kernel)
theorem lk_195 : Cond.methodLink RL 73 am_m195.1 ∈ am_W := am_in (q := (6, 233)) (by decide +kernel) (by decide +kernel)
theorem lk_198 : Cond.methodLink RL 77 am_m198.1 ∈ am_W := am_in (q := (6, 237)) (by decide +kernel) (by decide +kernel)
theorem lk_200 : Cond.methodLink RL 81 am_m200.1 ∈ am_W := am_in (q := (7, 9)) (by decide +kernel) (by decide +kernel)
theorem lk_111 : Cond.methodLink RL 7 am_m111.1 ∈ am_W := am_in (q := (4, 89)) (by decide +kernel) (by decide +kernel)
theorem lk_112 : Cond.methodLink RL 15 am_m112.1 ∈ am_W := am_in (q := (4, 166)) (by decide +kernel) (by decide +kernel)
theorem lk_113 : Cond.methodLink RL 19 am_m113.1 ∈ am_W := am_in (q := (4, 180)) (by decide +kernel) (by decide +kernel)
theorem lk_114 : Cond.methodLink RL 23 am_m114.1 ∈ am_W := am_in (q := (4, 193)) (by decide +kernel) (by decide +kernel)
theorem lk_115 : Cond.methodLink RL 29 am_m115.1 ∈ am_W := am_in (q := (4, 225)) (by decide +kernel) (by decide +kernel)
theorem lk_hypotheses : Cond.methodLink RL 57 yL_hypotheses ∈ am_W ∧ Cond.static yL_hypotheses ∈ am_W ∧ Cond.codeWith yL_hypotheses cL_hypotheses 4 (some .int) [(0, 9, 12, 13)] ∈ am_W := ⟨am_in (q := (4, 85)) (by decide +kernel) (by decide +kernel), am_in (q := (4, 86)) (by decide +kernel) (by decide +kernel), am_in (q := (4, 87)) (by decide +kernel) (by decide +kernel)⟩
theorem lk_symbol : Cond.methodLink RL 66 yL_symbol ∈ am_W ∧ Cond.static yL_symbol ∈ am_W ∧ Cond.codeWith yL_symbol cL_symbol 6 (some .int) [(0, 12, 15, 13)] ∈ am_W := ⟨am_in (q := (4, 163)) (by decide +kernel) (by decide +kernel), am_in (q := (4, 164)) (by decide +kernel) (by decide +kernel), am_in (q := (4, 165)) (by decide +kernel) (by decide +kernel)⟩
theorem lk_typeSymbol : Cond.methodLink RL 70 yL_typeSymbol ∈ am_W ∧ Cond.static yL_typeSymbol ∈ am_W ∧ Cond.codeWith yL_typeSymbol cL_typeSymbol 7 (some .int) [(0, 14, 17, 13)] ∈ am_W := ⟨am_in (q := (4, 177)) (by decide +kernel) (by decide +kernel), am_in (q := (4, 178)) (by decide +kernel) (by decide +kernel), am_in (q := (4, 179)) (by decide +kernel) (by decide +kernel)⟩
theorem lk_cut : Cond.methodLink RL 74 yL_cut ∈ am_W ∧ Cond.static yL_cut ∈ am_W ∧ Cond.codeWith yL_cut cL_cut 3 (some .int) [(0, 5, 8, 27)] ∈ am_W := ⟨am_in (q := (4, 189)) (by decide +kernel) (by decide +kernel), am_in (q := (4, 190)) (by decide +kernel) (by decide +kernel), am_in (q := (4, 191)) (by decide +kernel) (by decide +kernel)⟩
theorem lk_keep : Cond.methodLink RL 78 yL_keep ∈ am_W ∧ Cond.static yL_keep ∈ am_W ∧ Cond.codeWith yL_keep cL_keep 4 (some .int) [(0, 6, 9, 13), (0, 6, 12, 33), (0, 6, 15, 27)] ∈ am_W := ⟨am_in (q := (4, 221)) (by decide +kernel) (by decide +kernel), am_in (q := (4, 222)) (by decide +kernel) (by decide +kernel), am_in (q := (4, 223)) (by decide +kernel) (by decide +kernel)⟩
theorem lk_RL : Cond.initialized RL ∈ am_W := am_in (q := (1, 0)) (by decide +kernel) (by decide +kernel)
theorem lk_E0 : Cond.classLink RL 13 (tw_E 0) ∈ am_W := am_in (q := (4, 88)) (by decide +kernel) (by decide +kernel)
theorem lk_E1 : Cond.classLink RL 27 (tw_E 1) ∈ am_W := am_in (q := (4, 192)) (by decide +kernel) (by decide +kernel)
theorem lk_E2 : Cond.classLink RL 33 (tw_E 2) ∈ am_W := am_in (q := (4, 224)) (by decide +kernel) (by decide +kernel)
theorem lk_C8 : Cond.classLink RL 8 RX8 ∈ am_W := am_in (q := (1, 20)) (by decide +kernel) (by decide +kernel)
theorem lk_C9 : Cond.classLink RL 36 RX9 ∈ am_W := am_in (q := (5, 14)) (by decide +kernel) (by decide +kernel)
theorem lk_J : Cond.arrayClass .long ∈ am_W := am_in (q := (7, 17)) (by decide +kernel) (by decide +kernel)
theorem lk_S0 : Cond.laysStatic "TraceJudge$Axioms" "EXTENSION" "[I" ∈ lw_tbl ∧ Cond.initialized "TraceJudge$Axioms" ∈ lw_tbl := ⟨am_wd_in (q := (2, 74)) (by decide +kernel), am_wd_in (q := (1, 11)) (by decide +kernel)⟩
theorem lk_S1 : Cond.laysStatic "TraceJudge" "ENTRY_LENGTHS" "[I" ∈ lw_tbl ∧ Cond.initialized "TraceJudge" ∈ lw_tbl := ⟨am_wd_in (q := (2, 143)) (by decide +kernel), am_wd_in (q := (1, 1)) (by decide +kernel)⟩
theorem lk_S2 : Cond.laysStatic "TraceJudge$Axioms" "SELECTION" "[I" ∈ lw_tbl ∧ Cond.initialized "TraceJudge$Axioms" ∈ lw_tbl := ⟨am_wd_in (q := (4, 17)) (by decide +kernel), am_wd_in (q := (1, 11)) (by decide +kernel)⟩
theorem lk_S3 : Cond.laysStatic "TraceJudge$Axioms" "INFINITY" "[I" ∈ lw_tbl ∧ Cond.initialized "TraceJudge$Axioms" ∈ lw_tbl := ⟨am_wd_in (q := (4, 19)) (by decide +kernel), am_wd_in (q := (1, 11)) (by decide +kernel)⟩
theorem lk_S4 : Cond.laysStatic "TraceJudge$Axioms" "UNBOUND" "[I" ∈ lw_tbl ∧ Cond.initialized "TraceJudge$Axioms" ∈ lw_tbl := ⟨am_wd_in (q := (4, 58)) (by decide +kernel), am_wd_in (q := (1, 11)) (by decide +kernel)⟩
