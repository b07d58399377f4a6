/-! THE CLAIM OUT OF ONE WALK OF THE LAW'S BODY. Your part is whole_start (and what it stands on); all else here is the same for every law, but numbers. -/
def R_law : String := "TraceJudgeLaw"
def lw_P (b : Addr) (xs : List Int32) (args : Array Value) (s : State) : Prop := args = #[.ref b] ∧ s.IntsAt b xs ∧ xs.length ≤ 2560 ∧ (Jvm.Cond.and given_1 narrow_1).before args s = true
def lw_Q (_ : Array Value) (s : State) (o : Outcome) (t : State) : Prop := o = .returned (some (.int 1)) ∧ Framed s o t [] 601024 7293034
def lw_Z (below : List Frame) (a : Array Value) (s : State) : State → Prop := fun t => ∃ o, t.status = .running ∧ Ended t below o ∧ lw_Q a s o t
/-- the law's own end, with 1 on the stack, nothing written that was there before, its room as the claim has it -/
theorem lw_ret {p : Program} {l : Launch} {e : Env} {s : State} {m : MethodId} {below : List Frame} {meth : Method} {c : Code} {b : Nat} (hx : p.tables.exec = Jvm.exec) (hb : c.code = code) (hr : meth.sig.returnType = ret) (hlocks : meth.locks = false) {pc : Nat} {H : Heap} {ls : Array Slot} (hdg : decode code pc = .ok (.ireturn, 1)) : W p l e room_1 s m #[Value.ref b] below meth c H [] 601024 7293034 (lw_Z below #[Value.ref b] s) (F0 m pc ls [.int 1]) := by
  intro T hT X
  obtain ⟨fs, hret, hrun, hended, hW, hframe⟩ := X.leave (v := some (.int 1)) (hlocks := hlocks) (fun h => by rw [hr] at h; cases h)
  have hmeth' : T.vm.method? m = some meth := X.method'
  refine ⟨T.setFrames fs, ?_, .returned (some (.int 1)), hrun, hended, rfl, ⟨_, rfl⟩, hW, hframe⟩
  jvm_step X.here [X.here.top, hx, hb, hdg, hmeth', hr, ret, narrow_b1]
  (try refine ⟨rfl, ?_⟩); (try refine ⟨rfl, ?_⟩)
  first | (intro acts; rw [hret _ acts rfl rfl rfl]) | rw [hret _ _ rfl rfl rfl]
  exact Steps.refl _
/-- what holds at the law's entry: the machine, the code, the tables' words (any of lw_tbl by 'hts w (by decide +kernel)'), the script of L ints xs at the cell b, what the Statement gives of the start (any of its parts by flat_of_before) -/
def lw_At (p : Program) (s : State) (m : MethodId) (meth : Method) (c : Code) (b L : Nat) (xs : Nat → Int32) : Prop :=
  p.tables.exec = Jvm.exec ∧ c.code = code ∧ meth.sig.returnType = ret ∧ c.maxLocals = 7 ∧ s.vm.findClass R_law = some m.cls ∧ (∀ w ∈ lw_tbl, w.before #[Value.ref b] s = true) ∧ va_X b L xs s s.heap ∧ b < s.heap.size ∧ meth.locks = false ∧ (Jvm.Cond.and given_1 narrow_1).before #[Value.ref b] s = true
/-! THE LAW'S LOOP -/
section LLP
variable {p : Program} {l : Launch} {e : Env} {s : State} {m : MethodId} {below : List Frame} {meth : Method} {c : Code} {b L : Nat} {xs : Nat → Int32} {D : va_G} {sa q : Nat → Nat} {h0 : Nat → Option am_C} {oa x8 x9 F : Nat}
theorem ll_sub {L j : Nat} (hL : L ≤ 2560) (hj : 5 * j ≤ L) (h : ¬ (nI L - 5 : Int32) < nI (5 * j)) : 5 * j + 5 ≤ L := by
  by_cases e : 5 ≤ L
  · obtain ⟨k, rfl⟩ : ∃ k, L = k + 5 := ⟨L - 5, by omega⟩
    have : (nI (k + 5) - 5 : Int32) = nI k := by
      rw [← nI_add k 5]
      show nI k + 5 - 5 = nI k
      exact Int32.add_sub_cancel _ _
    rw [this] at h
    have : ¬ k < 5 * j := fun z => h (nI_lt z (by omega))
    omega
  · exfalso
    apply h
    have hneg : (nI L - 5 : Int32) < 0 := by
      have : L = 0 ∨ L = 1 ∨ L = 2 ∨ L = 3 ∨ L = 4 := by omega
      rcases this with rfl | rfl | rfl | rfl | rfl <;> decide
    exact Int32.lt_of_lt_of_le hneg (nI_pos' (by omega))
theorem LI.up {sa : Nat → Nat} {B j : Nat} {ρ : hp_L} {P : hp_P} {cells slots : Nat} (h : LI sa B j ρ P cells slots) : LI sa B (j + 1) ρ P cells slots := by
  obtain ⟨S, A, ws, flt, eu, hT, hMo, hA, m1, m2, c1, c2⟩ := h
  exact ⟨S, A, ws, flt, eu, hT, hMo, hA, by omega, by omega, c1, c2⟩
theorem LI.fit {sa : Nat → Nat} {B j : Nat} {ρ : hp_L} {P : hp_P} {cells slots : Nat} (h : LI sa B j ρ P cells slots) (hj : j ≤ 600) : cells ≤ 601024 ∧ slots ≤ 7293034 := by
  obtain ⟨S, A, ws, flt, eu, hT, hMo, hA, m1, m2, c1, c2⟩ := h
  have := hT.len
  omega
set_option maxHeartbeats 4000000 in
theorem law_loop (Z : LZ p l s m meth c b L xs D sa q) (hF : 400000 ≤ F) : ∀ (n j : Nat) (ρ : hp_L) (P : hp_P) (v0 : Int64) (H : Heap) (locs : List Loc) (cells slots : Nat) (ls : Array Slot), L < 5 * (j + n) + 5 → 5 * j ≤ L → LH D sa s h0 ρ P oa v0 H locs → LI sa s.heap.size j ρ P cells slots → ρ.1 8 = x8 → ρ.1 9 = x9 → lv_has ls 7 [(0, .ref b), (1, .ref x8), (2, .ref x9), (3, .ref oa), (4, .int (nI (5 * j)))] → W p l e room_1 s m #[Value.ref b] below meth c H locs cells slots (lw_Z below #[Value.ref b] s) (F0 m 23 ls []) := by
  obtain ⟨⟨hexec, hb, hr, hml, hown, hlocks⟩, hts, ⟨hX, hbl⟩, hK, hxt, hstk, hL⟩ := id Z
  intro n
  induction n with
  | zero =>
    intro j ρ P v0 H locs cells slots ls hn hj h hI h8 h9 hl
    have fit := hI.fit (by omega)
    refine lv_iload hexec hb dl_23 (lv_at hl 4 rfl) ?_
    refine lv_aload_n hexec hb dl_25 rfl (lv_at hl 0 rfl) ?_
    refine va_slen (A := fun z => s.heap.size ≤ z) hexec hb hX hbl (Nat.not_le.mpr hbl) h.2.1.S dl_26 ?_
    refine lv_iconst (v := 5) hexec hb dl_27 (by decide) ?_
    refine lv_isub hexec hb dl_28 ?_
    refine lv_icmp_gt (tgt := 470) hexec hb dl_29 (by decide) (fun _ => ?_) (fun z => ?_)
    · refine lv_iconst (v := 1) hexec hb dl_470 (by decide) ?_
      refine va_forget (fun z hz => (h.2.1.1.2.2 z hz).1) ?_
      refine W.widen (k := 601024) (n := 7293034) fit.1 fit.2 ?_
      exact lw_ret hexec hb hr hlocks dl_471
    · have := ll_sub hL hj z
      omega
  | succ n ih =>
    intro j ρ P v0 H locs cells slots ls hn hj h hI h8 h9 hl
    have fit := hI.fit (by omega)
    refine lv_iload hexec hb dl_23 (lv_at hl 4 rfl) ?_
    refine lv_aload_n hexec hb dl_25 rfl (lv_at hl 0 rfl) ?_
    refine va_slen (A := fun z => s.heap.size ≤ z) hexec hb hX hbl (Nat.not_le.mpr hbl) h.2.1.S dl_26 ?_
    refine lv_iconst (v := 5) hexec hb dl_27 (by decide) ?_
    refine lv_isub hexec hb dl_28 ?_
    refine lv_icmp_gt (tgt := 470) hexec hb dl_29 (by decide) (fun _ => ?_) (fun z => ?_)
    · refine lv_iconst (v := 1) hexec hb dl_470 (by decide) ?_
      refine va_forget (fun z hz => (h.2.1.1.2.2 z hz).1) ?_
      refine W.widen (k := 601024) (n := 7293034) fit.1 fit.2 ?_
      exact lw_ret hexec hb hr hlocks dl_471
    · have hj5 := ll_sub hL hj z
      have nx : LN p l e s m below meth c (lw_Z below #[Value.ref b] s) b D sa h0 oa j x8 x9 := fun ρ' P' v' H' locs' cells' slots' ls' g1 g2 g3 g4 g5 => by
        refine lv_iinc (v := nI (5 * (j + 1))) (lv' := [(4, .int (nI (5 * (j + 1)))), (0, .ref b), (1, .ref x8), (2, .ref x9), (3, .ref oa)]) hexec hb dl_464 g5 (k := 4) rfl ?_ (by decide) rfl (fun ls hl => ?_)
        · show nI (5 * j) + nI 5 = _
          rw [nI_add]
          rfl
        · refine lv_goto (tgt := 23) hexec hb dl_467 (by decide) ?_
          exact ih (j + 1) ρ' P' v' H' locs' cells' slots' ls (by omega) (by omega) g1 g2 g3 g4 (lv_sub hl [1, 2, 3, 4, 0] rfl)
      refine lv_aload_n hexec hb dl_32 rfl (lv_at hl 0 rfl) ?_
      refine lv_iload hexec hb dl_33 (lv_at hl 4 rfl) ?_
      refine va_sld (A := fun z => s.heap.size ≤ z) hexec hb hX hbl (Nat.not_le.mpr hbl) h.2.1.S (vp_in_nI (by omega) (by omega)) dl_35 ?_
      refine lv_bipush (v := 15) hexec hb dl_36 (by decide) ?_
      refine lv_iand hexec hb dl_38 ?_
      obtain ⟨k, hk, ek⟩ := pk_andE (xs (nI (5 * j)).toNatClampNeg) (m := 15) 4 (by decide)
      rw [ek]
      have hk : k < 16 := hk
      by_cases k9 : 9 ≤ k
      · refine lv_tableOut (tgt := 464) hexec hb dl_39 (Or.inr ?_) (by decide) ?_
        · rw [nI_toInt (by omega)]
          omega
        · exact nx ρ P v0 H locs cells slots ls h hI.up h8 h9 hl
      · have hc : k = 0 ∨ k = 1 ∨ k = 2 ∨ k = 3 ∨ k = 4 ∨ k = 5 ∨ k = 6 ∨ k = 7 ∨ k = 8 := by omega
        rcases hc with rfl | rfl | rfl | rfl | rfl | rfl | rfl | rfl | rfl
        · exact lv_tableIn (off := 49) (tgt := 88) hexec hb dl_39 (by decide) (by decide) (by decide) (by decide) (law_0 Z hF hl hj5 h8 h9 h hI nx)
        · exact lv_tableIn (off := 74) (tgt := 113) hexec hb dl_39 (by decide) (by decide) (by decide) (by decide) (law_1 Z hF hl hj5 h8 h9 h hI nx)
        · exact lv_tableIn (off := 87) (tgt := 126) hexec hb dl_39 (by decide) (by decide) (by decide) (by decide) (law_2 Z hF hl hj5 h8 h9 h hI nx)
        · exact lv_tableIn (off := 100) (tgt := 139) hexec hb dl_39 (by decide) (by decide) (by decide) (by decide) (law_3 Z hF hl hj5 h8 h9 h hI nx)
        · exact lv_tableIn (off := 113) (tgt := 152) hexec hb dl_39 (by decide) (by decide) (by decide) (by decide) (law_4 Z hF hl hj5 h8 h9 h hI nx)
        · exact lv_tableIn (off := 169) (tgt := 208) hexec hb dl_39 (by decide) (by decide) (by decide) (by decide) (law_5 Z hF hl hj5 h8 h9 h hI nx)
        · exact lv_tableIn (off := 249) (tgt := 288) hexec hb dl_39 (by decide) (by decide) (by decide) (by decide) (law_6 Z hF hl hj5 h8 h9 h hI nx)
        · exact lv_tableIn (off := 341) (tgt := 380) hexec hb dl_39 (by decide) (by decide) (by decide) (by decide) (law_7 Z hF hl hj5 h8 h9 h hI nx)
        · exact lv_tableIn (off := 377) (tgt := 416) hexec hb dl_39 (by decide) (by decide) (by decide) (by decide) (law_8 Z hF hl hj5 h8 h9 h hI nx)
end LLP
