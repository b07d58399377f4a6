/-! AXIOMS of the class, 2: endOf, typeAt, and the works of writing -/
theorem hp_jk_arr {sa : Nat → Nat} {ρ : hp_L} {P : hp_P} {a : Nat} {x : Nat × (Nat → Int32)} (h : hp_jk ρ a (.inl x)) : am_arr (hp_S sa ρ P) a = some x := by
  unfold am_arr
  rw [show (hp_S sa ρ P).2.1 a = hp_h sa ρ P a from rfl, hp_h_j h.1 h.2.1, h.2.2]
theorem hp_jk_len {sa : Nat → Nat} {ρ : hp_L} {P : hp_P} {a : Nat} {x : Nat × (Nat → Int32)} (h : hp_jk ρ a (.inl x)) : am_alen (hp_S sa ρ P) a = some (nI x.1) := by
  unfold am_alen
  rw [hp_jk_arr h]
  rfl
theorem hp_jk_ld {sa : Nat → Nat} {ρ : hp_L} {P : hp_P} {a j : Nat} {x : Nat × (Nat → Int32)} (h : hp_jk ρ a (.inl x)) (hj : j < x.1) (h31 : j < 2 ^ 31) : am_iald (hp_S sa ρ P) a (nI j) = some (x.2 j) := by
  unfold am_iald
  rw [hp_jk_arr h]
  simp only [Option.bind_some]
  rw [nI_clamp h31, if_neg (fun z => z.elim (nI_pos h31) (fun z => by omega))]
theorem h_f2 {sa : Nat → Nat} {B : Nat} {ρ : hp_L} {P : hp_P} (w : hp_w B ρ) : am_getr (hp_S sa ρ P) (ρ.1 0) 0 2 = some (sa (P.1 2).toNatClampNeg) := by
  unfold am_getr
  rw [hx_0 w]
  rfl
/-- the axioms' object: the formula, the types of its names, what is bound -/
def axI (sa : Nat → Nat) (G : qT → Prop) (tO : Nat → Option qT) (F : List Nat) (ρ : hp_L) (P : hp_P) (n : Nat) (T : Nat → Int32 × Int32 × Int32) (b : axB) : Prop :=
  hp_jk ρ (sa (P.1 2).toNatClampNeg) (.inl (F.length, fun i => nI ((F[i]?).getD 0))) ∧ hp_jk ρ (sa 4) (.inl (5, fun i => nI ((([1, 1, 5, 1, 6] : List Nat)[i]?).getD 0))) ∧ (P.2 3).1 = 5 ∧ (P.2 4).1 = 5 ∧
  (∀ c t, c < 5 → tO c = some t → plg G n T ((P.2 3).2 c) t) ∧ ∀ c, c < 5 → ((b c = none → (P.2 4).2 c = -1) ∧ ∀ k, b c = some k → (P.2 4).2 c = nI k ∧ k ≤ 1000)
def ax_S : Nat → Bool := fun r => st_S r || decide (r = 4)
theorem ax_st {r : Nat} (h : ax_S r = false) : st_S r = false := (Bool.or_eq_false_iff.mp h).1
theorem hp_fr.ax {e : Nat} {ρ ρ' : hp_L} {P P' : hp_P} (h : hp_fr st_S e ρ P ρ' P') : hp_fr ax_S e ρ P ρ' P' := h.weaken fun _ h => ax_st h
section AX2
variable {sa : Nat → Nat} {B : Nat} {ρ : hp_L} {P : hp_P} {bb : Bool} {n : Nat} {T : Nat → Int32 × Int32 × Int32} {Z : Prop} {G : qT → Prop} {C : sC} {H : List qM} {D : List qS} {tO : Nat → Option qT} {F : List Nat} {b : axB} {Gl : List qT}
theorem axI.go {e : Nat} {ρ' : hp_L} {P' : hp_P} {n' : Nat} {T' : Nat → Int32 × Int32 × Int32} (h : axI sa G tO F ρ P n T b) (fr : hp_fr st_S e ρ P ρ' P') (hw : ty_wf T n) (hn : n < 2 ^ 31) (xt : ty_xt n T n' T') : axI sa G tO F ρ' P' n' T' b := by
  obtain ⟨h1, h2, h3, h4, h5, h6⟩ := h
  have e2 : P'.1 2 = P.1 2 := (fr.2.1 2 rfl).1
  have e3 : P'.2 3 = P.2 3 := (fr.2.1 3 rfl).2.1
  have e4 : P'.2 4 = P.2 4 := (fr.2.1 4 rfl).2.1
  refine ⟨by rw [e2]; exact fr.2.2.1 _ _ h1, fr.2.2.1 _ _ h2, by rw [e3]; exact h3, by rw [e4]; exact h4, fun c t hc ht => ?_, fun c hc => ?_⟩
  · rw [e3]; exact (h5 c t hc ht).xt hw hn xt
  · rw [e4]; exact h6 c hc
/-- what a work of an axiom comes to -/
def aX (Z : Prop) (G : qT → Prop) (B : Nat) (sa : Nat → Nat) (tO : Nat → Option qT) (F : List Nat) (C : sC) (ρ : hp_L) (P : hp_P) (n : Nat) (T : Nat → Int32 × Int32 × Int32) (bb : Bool) (x : Option (Option Value × am_S)) (H : List qM) (D : List qS) (b : axB) : Prop :=
  ∃ (ρ' : hp_L) (P' : hp_P) (n' : Nat) (T' : Nat → Int32 × Int32 × Int32) (bb' : Bool), x = some (none, hp_S sa ρ' P') ∧ sI Z G B C ρ' P' n' T' H D bb' ∧ axI sa G tO F ρ' P' n' T' b ∧ hp_fr ax_S 0 ρ P ρ' P' ∧ ty_xt n T n' T' ∧ (bb' = false → bb = false)
theorem sX.a {x : Option (Option Value × am_S)} {D' : List qS} (h : sX Z G B sa C ρ P n T bb x none H D') (ha : axI sa G tO F ρ P n T b) (y : tyI P n T) : aX Z G B sa tO F C ρ P n T bb x H D' b := by
  obtain ⟨ρ', P', n', T', b', a1, a2, a3, a4, a5⟩ := h
  exact ⟨ρ', P', n', T', b', a1, a2, ha.go a3 y.wf y.n31 a4, a3.ax, a4, a5⟩
/-- endOf -/
theorem a_end_loop {cl : am_F} (w : hp_w B ρ) (h : axI sa G tO F ρ P n T b) (hF : F.length ≤ 100) (hF2 : ∀ c ∈ F, c ≤ 100) : ∀ (g at' k e f : Nat), ax_e F g at' k = some e → at' + g ≤ 3000 → k + g ≤ 3000 → g ≤ f → am_go B sa am_dfl cl am_r105 f 4 [(0, .ref (ρ.1 0)), (2, .int (nI k)), (3, .int (nI at'))] [] (hp_S sa ρ P) = some (some (.int (nI e)), hp_S sa ρ P) := by
  intro g
  induction g with
  | zero => intro at' k e f he; cases he
  | succ g ih =>
    intro at' k e f he h1 h2 hf
    obtain ⟨f, rfl⟩ : ∃ g, f = g + 1 := ⟨f - 1, by omega⟩
    simp only [ax_e] at he
    rw [am_s105_4]
    simp only [am_c_le, h_f2 w, Option.bind_some, hp_jk_len h.1, am_c_ge]
    by_cases e0 : k = 0
    · rw [if_pos e0] at he
      rw [if_pos (by rw [e0]; decide), Option.some.inj he]
    · rw [if_neg e0] at he
      rw [if_neg (nI_nle (by omega) (by omega))]
      cases hc : F[at']? with
      | none =>
        rw [hc] at he
        have hge : F.length ≤ at' := List.getElem?_eq_none_iff.mp hc
        rw [if_pos (nI_le hge (by omega)), Option.some.inj he]
      | some c =>
        rw [hc] at he
        have hlt : at' < F.length := (List.getElem?_eq_some_iff.mp hc).1
        have hcb := hF2 c (List.mem_of_getElem? hc)
        rw [if_neg (nI_ge hlt (by omega)), hp_jk_ld h.1 hlt (by omega)]
        dsimp only
        rw [hc]
        simp only [Option.bind_some, Option.getD_some, nI_1]
        dsimp only at he
        by_cases e5 : c < 5
        · rw [if_pos e5] at he
          obtain ⟨k, rfl⟩ : ∃ j, k = j + 1 := ⟨k - 1, by omega⟩
          rw [if_neg (by rw [show (5 : Int32) = nI 5 from rfl]; exact nI_ge e5 (by omega)), pk_m1]
          exact ih (at' + 1) k e f he (by omega) (by omega) (by omega)
        · rw [if_neg e5] at he
          rw [if_pos (by rw [show (5 : Int32) = nI 5 from rfl]; exact nI_le (by omega) (by omega))]
          exact ih (at' + 1) (k + 1) e f he (by omega) (by omega) (by omega)
theorem a_end {f d g at' e : Nat} (w : hp_w B ρ) (h : axI sa G tO F ρ P n T b) (hF : F.length ≤ 100) (hF2 : ∀ c ∈ F, c ≤ 100) (he : ax_e F g at' 1 = some e) (h1 : at' + g ≤ 3000) (h2 : g ≤ 2000) (hf : 5000 ≤ f) : am_call B sa am_dfl am_tb f (d + 1) 105 [.ref (ρ.1 0), .int (nI at')] (hp_S sa ρ P) = some (some (.int (nI e)), hp_S sa ρ P) := by
  obtain ⟨f, rfl⟩ : ∃ g, f = g + 1 := ⟨f - 1, by omega⟩
  rw [am_c_105, am_s105_0]
  exact a_end_loop w h hF hF2 g at' 1 e f he h1 (by omega) (by omega)
/-- typeAt -/
theorem a_ty {f : Nat} (hf : 20000 ≤ f) (hF : F.length ≤ 100) (hF2 : ∀ c ∈ F, c ≤ 100) (hG : ∀ t ∈ Gl, G t) : ∀ (g at' d : Nat) (t : qT) (ρ : hp_L) (P : hp_P) (n : Nat) (T : Nat → Int32 × Int32 × Int32), ax_t Gl tO F g at' = some t → at' ≤ 1000 → sI Z G B C ρ P n T H D bb → axI sa G tO F ρ P n T b →
    ∃ (ρ' : hp_L) (P' : hp_P) (v : Int32) (n' : Nat) (T' : Nat → Int32 × Int32 × Int32), am_call B sa am_dfl am_tb f (d + g + 5) 104 [.ref (ρ.1 0), .int (nI at')] (hp_S sa ρ P) = some (some (.int v), hp_S sa ρ' P') ∧ sI Z G B C ρ' P' n' T' H D bb ∧ axI sa G tO F ρ' P' n' T' b ∧ hp_fr st_S 0 ρ P ρ' P' ∧ ty_xt n T n' T' ∧ plg G n' T' v t := by
  obtain ⟨f, rfl⟩ : ∃ g, f = g + 1 := ⟨f - 1, by omega⟩
  intro g
  induction g with
  | zero => intro at' d t ρ P n T he; cases he
  | succ g ih =>
    intro at' d t ρ P n T he ha hs hx
    have w := hs.w
    simp only [ax_t] at he
    cases hc : F[at']? with
    | none => rw [hc] at he; cases he
    | some c =>
      rw [hc] at he
      dsimp only at he
      have hlt : at' < F.length := (List.getElem?_eq_some_iff.mp hc).1
      have hcb := hF2 c (List.mem_of_getElem? hc)
      have rd : am_iald (hp_S sa ρ P) (sa (P.1 2).toNatClampNeg) (nI at') = some (nI c) := by
        rw [hp_jk_ld hx.1 hlt (by omega)]
        dsimp only
        rw [hc]; rfl
      rw [am_c_104, am_s104_0]
      have hlt' : (nI at' < nI F.length) = True := eq_true (nI_lt hlt (by omega))
      simp only [h_f2 w, Option.bind_some, hp_jk_len hx.1, am_c_lt, hlt', if_true, rd, am_c_ge, am_c_ne]
      by_cases e5 : c < 5
      · rw [if_pos e5] at he
        rw [if_neg (by rw [show (5 : Int32) = nI 5 from rfl]; exact nI_ge e5 (by omega))]
        have r3 : hp_rd P 3 (nI c) = some ((P.2 3).2 c) := hp_rd_nI (by rw [hx.2.2.1]; omega) (by omega)
        simp only [hr_3 w, Option.bind_some, hl_3 w, r3]
        exact ⟨ρ, P, _, n, T, rfl, hs, hx, hp_fr.rf, ty_xt.rf, hx.2.2.2.2.1 c t e5 he⟩
      · rw [if_neg e5] at he
        rw [if_pos (by rw [show (5 : Int32) = nI 5 from rfl]; exact nI_le (by omega) (by omega))]
        by_cases e10 : c = 10
        · rw [if_pos e10] at he
          rw [if_neg (fun z => z (by rw [e10]; rfl))]
          obtain ⟨t1, ht1, he⟩ := Option.bind_eq_some_iff.mp he
          obtain ⟨⟨a, q⟩, hq1, hq2⟩ := Option.map_eq_some_iff.mp he
          have hq2 : q = t := hq2
          obtain ⟨ht2, hqE⟩ := q_ans_eq hq1
          obtain ⟨ρ1, P1, v1, n1, T1, a1, a2, a3, a4, a5, a6⟩ := ih (at' + 1) d t1 ρ P n T ht1 (by omega) hs hx
          rw [show d + g + 5 = d + (g + 1) + 4 by omega] at a1
          simp only [ho_0 w, Option.bind_some, hx_0 w, nI_1, a1, am_i_some]
          have w1 := a2.w
          have y1 := a2.y.1
          rw [w_ob a4 7]
          rw [ht2] at a6
          rcases a6 with a6 | ⟨e1, e2⟩
          · obtain ⟨x, x1, x2, x3⟩ := a6
            rw [x2, ct_at y1.wf y1.n31 x1] at x3
            obtain ⟨z1, z2, z3⟩ := qN_inj.mp x3
            have hans := ty_answer (sa := sa) (f := f) (d := d + g + 3) w1 y1.1 x1
            rw [show d + g + 3 + 2 = d + (g + 1) + 4 by omega] at hans
            rw [x2, hx_7 w1, Option.bind_some, hans, am_i_some, if_pos z1]
            refine ⟨ρ1, P1, _, n1, T1, rfl, a2, a3, a4, a5, Or.inl ?_⟩
            rcases (y1.wf x x1).2 with z | ⟨k, k1, k2⟩
            · rw [z, ct_m1] at z3
              exact absurd z3.symm hqE
            · exact ⟨k, by omega, k2, by rw [z3]; exact hq2⟩
          · have hans := ty_answer_no (sa := sa) (P := P1) (f := f) (d := d + g + 3) w1 (i := v1) (by rw [e1]; decide)
            rw [show d + g + 3 + 2 = d + (g + 1) + 4 by omega] at hans
            rw [hx_7 w1, Option.bind_some, hans, am_i_some]
            exact ⟨ρ1, P1, _, n1, T1, rfl, a2, a3, a4, a5, Or.inr ⟨rfl, e2⟩⟩
        · rw [if_neg e10] at he
          rw [if_pos (show nI c ≠ 10 from fun z => e10 ((nI_eq (b := 10) (by omega) (by decide)).mp z))]
          by_cases e11 : c = 11
          · rw [if_pos e11] at he
            rw [if_neg (fun z => z (by rw [e11]; rfl))]
            obtain ⟨t1, ht1, he⟩ := Option.bind_eq_some_iff.mp he
            obtain ⟨t2, ht2, he⟩ := Option.bind_eq_some_iff.mp he
            by_cases eg : q_inl Gl (qF t1 t2) = true
            · rw [if_pos eg] at he
              obtain ⟨ρ1, P1, v1, n1, T1, a1, a2, a3, a4, a5, a6⟩ := ih (at' + 1) d t1 ρ P n T ht1 (by omega) hs hx
              obtain ⟨ρ2, P2, v2, n2, T2, b1, b2, b3, b4, b5, b6⟩ := ih (at' + 2) d t2 ρ1 P1 n1 T1 ht2 (by omega) a2 a3
              obtain ⟨ρ3, P3, v3, n3, T3, c1, c2, c3, c4, c5⟩ := s_make (sa := sa) (f := f + 1) (d := d + g + 2) (c := 2) b2 (by omega) (a6.xt a2.y.1.wf a2.y.1.n31 b5) b6 (hG _ (q_inl_mem eg))
              rw [show d + g + 5 = d + (g + 1) + 4 by omega] at a1 b1
              rw [show d + g + 2 + 3 = d + (g + 1) + 4 by omega] at c1
              have n2' : nI at' + 2 = nI (at' + 2) := nI_add at' 2
              simp only [ho_0 w, Option.bind_some, hx_0 w, nI_1, n2', a1, am_i_some]
              rw [w_ob a4 0, w_ob a4 7]
              simp only [hx_0 a2.w, Option.bind_some, b1, am_i_some]
              rw [w_ob b4 7]
              simp only [hx_7 b2.w, Option.bind_some, c1, am_i_some]
              exact ⟨ρ3, P3, v3, n3, T3, rfl, c2, b3.go c3 b2.y.1.wf b2.y.1.n31 c4, hp_fr.tr0 a4 (hp_fr.tr0 b4 c3), a5.tr (b5.tr c4), by rw [← Option.some.inj he]; exact c5⟩
            · rw [if_neg eg] at he; cases he
          · rw [if_neg e11] at he
            rw [if_pos (show nI c ≠ 11 from fun z => e11 ((nI_eq (b := 11) (by omega) (by decide)).mp z))]
            exact ⟨ρ, P, 1, n, T, rfl, hs, hx, hp_fr.rf, ty_xt.rf, by rw [← Option.some.inj he]; exact Or.inl hs.y.B⟩
end AX2
