/-! THE LAW: what the start gives -/
set_option maxRecDepth 100000 in
theorem ls_NF : am_NF.map (fun q => some (Cond.fieldLinkNest q.1 q.2.1 q.2.2.1 q.2.2.2.1 q.2.2.2.2.1 q.2.2.2.2.2)) = ([(1, 79), (1, 81), (1, 82), (1, 84), (1, 85), (1, 87), (1, 91), (1, 93), (1, 95), (1, 124), (1, 125), (1, 127), (1, 154), (1, 156), (1, 158), (1, 160), (1, 162), (1, 164), (1, 169), (1, 209), (1, 210), (1, 212), (1, 213), (1, 215), (1, 216), (1, 218), (1, 219), (1, 220), (1, 222), (1, 224), (1, 225), (1, 226), (2, 15), (2, 18), (2, 19), (2, 21), (2, 23), (2, 25), (3, 63), (3, 65), (3, 67), (3, 69)] : List (Nat × Nat)).map am_wd := by decide +kernel
set_option maxRecDepth 100000 in
theorem ls_NM : am_NM.map (fun q => some (Cond.methodLinkNest q.1 q.2.1 q.2.2.1 q.2.2.2)) = ([(1, 56), (2, 156), (2, 165), (2, 182), (3, 13), (3, 31), (3, 173), (4, 20)] : List (Nat × Nat)).map am_wd := by decide +kernel
theorem ls_in {α : Type} {l : List α} {f : α → Cond} {ps : List (Nat × Nat)} (h : l.map (fun q => some (f q)) = ps.map am_wd) : ∀ q ∈ l, f q ∈ lw_tbl := fun q hq => by
  have h1 : some (f q) ∈ ps.map am_wd := by rw [← h]; exact List.mem_map.mpr ⟨q, hq, rfl⟩
  obtain ⟨z, -, hz⟩ := List.mem_map.mp h1
  exact am_wd_in hz
def ls_g : List Cond := flatC (Jvm.Cond.and given_1 narrow_1)
set_option maxRecDepth 100000 in
theorem ls_a0 : Cond.arrayOf (.static "TraceJudge$Axioms" "EXTENSION" "[I") .int ∈ ls_g ∧ Cond.eq (.length (.static "TraceJudge$Axioms" "EXTENSION" "[I")) (.int 14) ∈ ls_g := by decide +kernel
set_option maxRecDepth 100000 in
theorem ls_e0 : ∀ j, j < 14 → Cond.eq (.elem (.static "TraceJudge$Axioms" "EXTENSION" "[I") (.int (Int32.ofNat j))) (.int (nI ((ax_F0[j]?).getD 0))) ∈ ls_g := by decide +kernel
set_option maxRecDepth 100000 in
theorem ls_a1 : Cond.arrayOf (.static "TraceJudge" "ENTRY_LENGTHS" "[I") .int ∈ ls_g ∧ Cond.eq (.length (.static "TraceJudge" "ENTRY_LENGTHS" "[I")) (.int 23) ∈ ls_g := by decide +kernel
set_option maxRecDepth 100000 in
theorem ls_e1 : ∀ j, j < 23 → Cond.eq (.elem (.static "TraceJudge" "ENTRY_LENGTHS" "[I") (.int (Int32.ofNat j))) (.int (nI ((el_T[j]?).getD 0))) ∈ ls_g := by decide +kernel
set_option maxRecDepth 100000 in
theorem ls_a2 : Cond.arrayOf (.static "TraceJudge$Axioms" "SELECTION" "[I") .int ∈ ls_g ∧ Cond.eq (.length (.static "TraceJudge$Axioms" "SELECTION" "[I")) (.int 16) ∈ ls_g := by decide +kernel
set_option maxRecDepth 100000 in
theorem ls_e2 : ∀ j, j < 16 → Cond.eq (.elem (.static "TraceJudge$Axioms" "SELECTION" "[I") (.int (Int32.ofNat j))) (.int (nI ((ax_F1[j]?).getD 0))) ∈ ls_g := by decide +kernel
set_option maxRecDepth 100000 in
theorem ls_a3 : Cond.arrayOf (.static "TraceJudge$Axioms" "INFINITY" "[I") .int ∈ ls_g ∧ Cond.eq (.length (.static "TraceJudge$Axioms" "INFINITY" "[I")) (.int 38) ∈ ls_g := by decide +kernel
set_option maxRecDepth 100000 in
theorem ls_e3 : ∀ j, j < 38 → Cond.eq (.elem (.static "TraceJudge$Axioms" "INFINITY" "[I") (.int (Int32.ofNat j))) (.int (nI ((ax_F2[j]?).getD 0))) ∈ ls_g := by decide +kernel
set_option maxRecDepth 100000 in
theorem ls_a4 : Cond.arrayOf (.static "TraceJudge$Axioms" "UNBOUND" "[I") .int ∈ ls_g ∧ Cond.eq (.length (.static "TraceJudge$Axioms" "UNBOUND" "[I")) (.int 5) ∈ ls_g := by decide +kernel
set_option maxRecDepth 100000 in
theorem ls_e4 : ∀ j, j < 5 → Cond.eq (.elem (.static "TraceJudge$Axioms" "UNBOUND" "[I") (.int (Int32.ofNat j))) (.int (nI ((([1, 1, 5, 1, 6] : List Nat)[j]?).getD 0))) ∈ ls_g := by decide +kernel
set_option maxRecDepth 100000 in
theorem ls_n : Cond.not (.castable (tw_E 2) (tw_E 0)) ∈ ls_g ∧ Cond.not (.castable (tw_E 1) (tw_E 0)) ∈ ls_g ∧ Cond.not (.castable (tw_E 1) (tw_E 2)) ∈ ls_g := by decide +kernel
set_option maxRecDepth 100000 in
theorem ls_z : Cond.isRef (.static Bundle.tN "UNASSIGNED_STACK" Bundle.steD) ∈ ls_g ∧ Cond.isRef (.static Bundle.tN "SUPPRESSED_SENTINEL" Bundle.listD) ∈ ls_g := by decide +kernel
set_option maxRecDepth 100000 in
theorem ls_s : ∀ k ∈ [111, 123, 134, 145, 162], Cond.exactly (.string RX8 k) "java/lang/String" ∈ ls_g := by decide +kernel
section LST
variable {s : State} {args : Array Value}
/-- a static row of ints -/
theorem ls_row {C n : String} {N : Nat} {f : Nat → Int32} (hN : N < 2 ^ 31) (hg : ∀ w ∈ ls_g, w.before args s = true) (h1 : Cond.arrayOf (.static C n "[I") .int ∈ ls_g ∧ Cond.eq (.length (.static C n "[I")) (.int (Int32.ofNat N)) ∈ ls_g) (h2 : ∀ j, j < N → Cond.eq (.elem (.static C n "[I") (.int (Int32.ofNat j))) (.int (f j)) ∈ ls_g) (hl : (Cond.laysStatic C n "[I").before args s = true) (hi : (Cond.initialized C).before args s = true) :
    ∃ t : Nat, va_Z C n "[I" (.ref t) (fun a => s.heap.size ≤ a) s s.heap ∧ va_T .int t N (fun j => .int (f j)) (fun a => s.heap.size ≤ a) s s.heap := by
  obtain ⟨t, h3, h4⟩ := va_Tof (ty := .int) (f := fun j => .int (f j)) (A := fun a => s.heap.size ≤ a) hN (hg _ h1.1) (va_eqt (hg _ h1.2)) (fun j hj => va_eqt (hg _ (h2 j hj))) (fun a ha => Nat.not_le.mpr ha)
  exact ⟨t, va_Zof hl hi h3 (fun a ha => Nat.not_le.mpr ha), h4⟩
theorem ls_at {D : va_G} {t N : Nat} {f : Nat → Int32} (h : va_T .int t N (fun j => .int (f j)) (fun a => s.heap.size ≤ a) s s.heap) : t < s.heap.size ∧ am_at D s.heap.size s t (.inl (N, f)) s.heap := by
  obtain ⟨cell, h1, h2, h3, h4, h5, h6, h7⟩ := h
  have hlt : t < s.heap.size := (Array.getElem?_eq_some_iff.mp h1).1
  exact ⟨hlt, Or.inr ⟨hlt, cell, h1, h2, h3, h4, h5, h6⟩⟩
theorem ls_ap {t N M : Nat} {f g : Nat → Value} {A : Nat → Prop} (h : va_T .int t N f A s s.heap) (k : va_T .int t M g A s s.heap) : Int32.ofNat N = Int32.ofNat M := by
  obtain ⟨c1, a1, -, -, -, a5, -⟩ := h
  obtain ⟨c2, b1, -, -, -, b5, -⟩ := k
  cases a1.symm.trans b1
  exact a5.symm.trans b5
def ls_h (sa : Nat → Nat) : Nat → Option am_C := fun a => if a = sa 0 then st_c 0 else if a = sa 1 then st_c 1 else if a = sa 2 then st_c 2 else if a = sa 3 then st_c 3 else if a = sa 4 then st_c 4 else none
/-- the classes' numbers and slots -/
theorem ls_K (hts : ∀ w ∈ am_W, w.before args s = true) : ∃ D : va_G, va_K D vwCl [] s := by
  have h : ∀ x : Nat, ∃ (cC : ClassId) (iS : Nat → Nat), ∀ q, vwCl[x]? = some q → u_Kn s q.1 q.2.1 q.2.2 cC iS := fun x => by
    cases hq : vwCl[x]? with
    | none => exact ⟨default, fun _ => 0, fun q hq => (by cases hq)⟩
    | some q =>
      obtain ⟨cC, iS, h⟩ := u_known (n := q.2.2) hts (am_cls hq).1 (hts _ (am_base_ok.2.2.2.2 x q hq).1)
      exact ⟨cC, iS, fun q' hq' => by cases hq'; exact h⟩
  obtain ⟨dC, h⟩ := Classical.skolem.mp h
  obtain ⟨dI, h⟩ := Classical.skolem.mp h
  exact ⟨(dC, dI), h, fun k q hk => by simp at hk⟩
end LST
set_option maxHeartbeats 4000000 in
theorem ls_all {s : State} {b : Nat} (hts : ∀ w ∈ lw_tbl, w.before #[Value.ref b] s = true) (hgv : (Jvm.Cond.and given_1 narrow_1).before #[Value.ref b] s = true) : ∃ (D : va_G) (sa q : Nat → Nat), am_K D s.heap.size sa s ∧ xt_K s.heap.size q s ∧ (∀ j c, st_c j = some c → sa j < s.heap.size ∧ ls_h sa (sa j) = some c ∧ am_at D s.heap.size s (sa j) c s.heap) := by
  have hg : ∀ w ∈ ls_g, w.before #[Value.ref b] s = true := flat_of_before _ hgv
  obtain ⟨D, hD⟩ := ls_K (fun w hw => hts w (am_W_tbl hw))
  obtain ⟨t0, z0, r0⟩ := ls_row (N := 14) (f := fun j => nI ((ax_F0[j]?).getD 0)) (by decide) hg ls_a0 ls_e0 (hts _ lk_S0.1) (hts _ lk_S0.2)
  obtain ⟨t1, z1, r1⟩ := ls_row (N := 23) (f := fun j => nI ((el_T[j]?).getD 0)) (by decide) hg ls_a1 ls_e1 (hts _ lk_S1.1) (hts _ lk_S1.2)
  obtain ⟨t2, z2, r2⟩ := ls_row (N := 16) (f := fun j => nI ((ax_F1[j]?).getD 0)) (by decide) hg ls_a2 ls_e2 (hts _ lk_S2.1) (hts _ lk_S2.2)
  obtain ⟨t3, z3, r3⟩ := ls_row (N := 38) (f := fun j => nI ((ax_F2[j]?).getD 0)) (by decide) hg ls_a3 ls_e3 (hts _ lk_S3.1) (hts _ lk_S3.2)
  obtain ⟨t4, z4, r4⟩ := ls_row (N := 5) (f := fun j => nI ((([1, 1, 5, 1, 6] : List Nat)[j]?).getD 0)) (by decide) hg ls_a4 ls_e4 (hts _ lk_S4.1) (hts _ lk_S4.2)
  have n10 : t1 ≠ t0 := fun e => by rw [e] at r1; exact absurd (ls_ap r1 r0) (by decide)
  have n20 : t2 ≠ t0 := fun e => by rw [e] at r2; exact absurd (ls_ap r2 r0) (by decide)
  have n21 : t2 ≠ t1 := fun e => by rw [e] at r2; exact absurd (ls_ap r2 r1) (by decide)
  have n30 : t3 ≠ t0 := fun e => by rw [e] at r3; exact absurd (ls_ap r3 r0) (by decide)
  have n31 : t3 ≠ t1 := fun e => by rw [e] at r3; exact absurd (ls_ap r3 r1) (by decide)
  have n32 : t3 ≠ t2 := fun e => by rw [e] at r3; exact absurd (ls_ap r3 r2) (by decide)
  have n40 : t4 ≠ t0 := fun e => by rw [e] at r4; exact absurd (ls_ap r4 r0) (by decide)
  have n41 : t4 ≠ t1 := fun e => by rw [e] at r4; exact absurd (ls_ap r4 r1) (by decide)
  have n42 : t4 ≠ t2 := fun e => by rw [e] at r4; exact absurd (ls_ap r4 r2) (by decide)
  have n43 : t4 ≠ t3 := fun e => by rw [e] at r4; exact absurd (ls_ap r4 r3) (by decide)
  obtain ⟨qs, hq⟩ : ∃ qs : Nat → Nat, ∀ i x, tw_T i = some x → vk_R RX8 x.1 x.2 (qs i) s := by
    have h : ∀ i : Nat, ∃ a : Nat, ∀ x, tw_T i = some x → vk_R RX8 x.1 x.2 a s := fun i => by
      cases hx : tw_T i with
      | none => exact ⟨0, fun x hx => (by cases hx)⟩
      | some x =>
        have hk : x.1 ∈ [111, 123, 134, 145, 162] := by
          match i, hx with
          | 0, hx => cases hx; decide
          | 1, hx => cases hx; decide
          | 2, hx => cases hx; decide
          | 3, hx => cases hx; decide
          | 4, hx => cases hx; decide
          | i + 5, hx => cases hx
        obtain ⟨a, c, cA, kA, q1, -⟩ := Cond.exactly_spec (args := #[Value.ref b]) (first := s) (o := none) (s := s) (idx := []) (t := .string RX8 x.1) (cls := "java/lang/String") (hg _ (ls_s _ hk))
        exact ⟨a, fun x' hx' => by cases hx'; exact vk_R.of (A := #[Value.ref b]) (hts _ (tw_T_tbl i x hx)) q1⟩
    exact Classical.skolem.mp h
  refine ⟨D, fun j => match j with
    | 0 => t0
    | 1 => t1
    | 2 => t2
    | 3 => t3
    | _ => t4, qs, ⟨hD, fun q hq => va_Nw.of rfl (hts _ (ls_in ls_NF q hq)), fun q hq => va_Nw.of rfl (hts _ (ls_in ls_NM q hq)), fun j q hj => ?_⟩, ⟨fun w hw => va_Nw.of (tw_on w hw) (hts w (tw_B_tbl w hw)), ⟨va_Nc.of (hg _ ls_n.1), va_Nc.of (hg _ ls_n.2.1), va_Nc.of (hg _ ls_n.2.2)⟩, hq, vx_Zqof (hts _ tw_S_tbl.1) (hts _ tw_S_tbl.2.2) (hg _ ls_z.1) (fun a ha => Nat.not_le.mpr ha), vx_Zqof (hts _ tw_S_tbl.2.1) (hts _ tw_S_tbl.2.2) (hg _ ls_z.2) (fun a ha => Nat.not_le.mpr ha)⟩, fun j c hc => ?_⟩
  · match j, hj with
    | 0, hj => cases hj; exact z0
    | 1, hj => cases hj; exact z1
    | 2, hj => cases hj; exact z2
    | 3, hj => cases hj; exact z3
    | 4, hj => cases hj; exact z4
    | j + 5, hj => cases hj
  · match j, hc with
    | 0, hc => cases hc; exact ⟨(ls_at (D := D) r0).1, by show ls_h _ t0 = _; exact if_pos rfl, (ls_at r0).2⟩
    | 1, hc => cases hc; exact ⟨(ls_at (D := D) r1).1, by show ls_h _ t1 = _; exact (if_neg n10).trans (if_pos rfl), (ls_at r1).2⟩
    | 2, hc => cases hc; exact ⟨(ls_at (D := D) r2).1, by show ls_h _ t2 = _; exact (if_neg n20).trans ((if_neg n21).trans (if_pos rfl)), (ls_at r2).2⟩
    | 3, hc => cases hc; exact ⟨(ls_at (D := D) r3).1, by show ls_h _ t3 = _; exact (if_neg n30).trans ((if_neg n31).trans ((if_neg n32).trans (if_pos rfl))), (ls_at r3).2⟩
    | 4, hc => cases hc; exact ⟨(ls_at (D := D) r4).1, by show ls_h _ t4 = _; exact (if_neg n40).trans ((if_neg n41).trans ((if_neg n42).trans ((if_neg n43).trans (if_pos rfl)))), (ls_at r4).2⟩
    | j + 5, hc => cases hc
