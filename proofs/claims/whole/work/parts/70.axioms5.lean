/-! AXIOMS of the class, 5: write of a formula; choose -/
section AX5
variable {sa : Nat → Nat} {B : Nat} {ρ : hp_L} {P : hp_P} {bb : Bool} {n : Nat} {T : Nat → Int32 × Int32 × Int32} {Z : Prop} {G : qT → Prop} {C : sC} {H : List qM} {D : List qS} {tO : Nat → Option qT} {F : List Nat} {b b' : axB} {Gl : List qT} {W : List qS}
theorem ax_e_le : ∀ {g at' k e : Nat}, ax_e F g at' k = some e → e ≤ at' + g
  | 0, _, _, _, h => by cases h
  | g + 1, at', k, e, h => by
    simp only [ax_e] at h
    by_cases e0 : k = 0
    · rw [if_pos e0] at h
      have := Option.some.inj h
      omega
    · rw [if_neg e0] at h
      cases hc : F[at']? with
      | none =>
        rw [hc] at h
        have : at' = e := Option.some.inj h
        omega
      | some c =>
        rw [hc] at h
        dsimp only at h
        by_cases e5 : c < 5
        · rw [if_pos e5] at h
          have := ax_e_le h
          omega
        · rw [if_neg e5] at h
          have := ax_e_le h
          omega
set_option maxHeartbeats 2000000 in
theorem a_write {f : Nat} (hf : 20000 ≤ f) (hF : F.length ≤ 100) (hF7 : 7 ≤ F.length) (hF2 : ∀ c ∈ F, c ≤ 100) (hG : ∀ t ∈ Gl, G t) (hg : ¬ q_good G → Z) : ∀ g, aW Z G B sa Gl tO F C H f g := by
  intro g
  induction g with
  | zero => intro at' bn d b b' W ρ P n T D bb he; cases he
  | succ g ih =>
    intro at' bn d b b' W ρ P n T D bb he hbn hs hx hz
    have w := hs.w
    simp only [ax_w] at he
    cases hc : F[at']? with
    | none => rw [hc] at he; cases he
    | some c =>
      rw [hc] at he
      dsimp only at he
      obtain ⟨sec, hsec, he⟩ := Option.bind_eq_some_iff.mp he
      have hlt : at' < F.length := (List.getElem?_eq_some_iff.mp hc).1
      have hcb := hF2 c (List.mem_of_getElem? hc)
      have hsl := ax_e_le hsec
      have rd : am_iald (hp_S sa ρ P) (sa (P.1 2).toNatClampNeg) (nI at') = some (nI c) := by
        rw [hp_jk_ld hx.1 hlt (by omega)]
        dsimp only
        rw [hc]; rfl
      have hend := a_end (sa := sa) (f := f) (d := d + 5 * g + 13) w hx hF hF2 hsec (by omega) (by omega) (by omega)
      have hlt' : (nI at' < nI F.length) = True := eq_true (nI_lt hlt (by omega))
      have ht : (nI c).toInt = (c : Int) := nI_toInt (by omega)
      have tI : ∀ k : Nat, ((nI c).toInt = (k : Int)) = (c = k) := fun k => by rw [ht]; exact propext ⟨fun z => by omega, fun z => by omega⟩
      have t10 : ((nI c).toInt = 10) = (c = 10) := tI 10
      have t11 : ((nI c).toInt = 11) = (c = 11) := tI 11
      have t12 : ((nI c).toInt = 12) = (c = 12) := tI 12
      have t13 : ((nI c).toInt = 13) = (c = 13) := tI 13
      have t14 : ((nI c).toInt = 14) = (c = 14) := tI 14
      have t15 : ((nI c).toInt = 15) = (c = 15) := tI 15
      have t16 : ((nI c).toInt = 16) = (c = 16) := tI 16
      obtain ⟨f0, hf0⟩ : ∃ g, f = g + 2 := ⟨f - 2, by omega⟩
      have hfs : f = f0 + 1 + 1 := hf0
      rw [show d + 5 * (g + 1) + 10 = d + 5 * g + 14 + 1 by omega, am_c_98]
      conv => arg 13; rw [hfs, am_s98_0, ← hfs]
      simp only [h_f2 w, Option.bind_some, hp_jk_len hx.1, am_c_lt, hlt', if_true, hx_0 w, nI_1, hend, am_i_some, rd, t10, t11, t12, t13, t14, t15, t16]
      by_cases e10 : c = 10
      · rw [if_pos e10] at he
        rw [if_pos e10]
        obtain ⟨t, ht, he⟩ := Option.bind_eq_some_iff.mp he
        obtain ⟨W1, b1, W2, h1, h2, rfl⟩ := ax_then_eq he
        obtain ⟨rfl, rfl⟩ := ax_put_eq h1
        obtain ⟨W3, b3, W4, h3, h4, rfl⟩ := ax_then_eq h2
        obtain ⟨ρ1, P1, v1, n1, T1, a1, a2, a3, a4, a5, a6⟩ := a_ty (f := f) hf hF hF2 hG g at' (d + 4 * g + 9) t ρ P n T ht (by omega) hs hx
        obtain ⟨ρ2, P2, n2, T2, bb2, c1, c2, c3, c4, c5, c6⟩ := (s_write (sa := sa) (f := f0) (d := d + 5 * g + 11) (c := -1) a2 a6 hg (fun z => hz (by simp only [List.length_append, List.length_cons, List.length_nil] at z ⊢; omega))).a a3 a2.y.1
        rw [← hf0] at c1
        obtain ⟨ρ3, P3, n3, T3, bb3, d1, d2, d3, d4, d5, d6⟩ := ih (at' + 1) bn (d + 4) b1 b3 W3 ρ2 P2 n2 T2 _ bb2 h3 (by omega) c2 c3 (fun z => hz (by simp only [List.length_append, List.length_cons, List.length_nil] at z ⊢; omega))
        obtain ⟨ρ4, P4, n4, T4, bb4, e1, e2, e3, e4, e5, e6⟩ := ih sec bn (d + 4) b3 b' W4 ρ3 P3 n3 T3 _ bb3 h4 (by omega) d2 d3 (fun z => hz (by simp only [List.length_append, List.length_cons, List.length_nil] at z ⊢; omega))
        refine ⟨ρ4, P4, n4, T4, bb4, ?_, by simp only [List.append_assoc] at e2 ⊢; exact e2, e3, hp_fr.tr0 a4.ax (hp_fr.tr0 c4 (hp_fr.tr0 d4 e4)), a5.tr (c5.tr (d5.tr e5)), fun z => c6 (d6 (e6 z))⟩
        rw [show d + 4 * g + 9 + g + 5 = d + 5 * g + 14 by omega] at a1
        rw [show d + 4 + 5 * g + 10 = d + 5 * g + 14 by omega] at d1 e1
        rw [show d + 5 * g + 11 + 3 = d + 5 * g + 14 by omega] at c1
        simp only [ho_1 w, Option.bind_some, a1, am_i_some]
        rw [w_ob a4 0, w_ob a4 3]
        simp only [hx_3 a2.w, Option.bind_some, c1, am_v_some]
        rw [w_ob c4 0]
        simp only [hx_0 c2.w, Option.bind_some, d1, am_v_some]
        rw [w_ob d4 0]
        simp only [hx_0 d2.w, Option.bind_some, e1, am_v_some]
      · rw [if_neg e10] at he
        rw [if_neg e10]
        by_cases e11 : c = 11
        · rw [if_pos e11] at he
          rw [if_pos e11]
          obtain ⟨t, ht, he⟩ := Option.bind_eq_some_iff.mp he
          obtain ⟨ρ1, P1, v1, n1, T1, a1, a2, a3, a4, a5, a6⟩ := a_ty (f := f) hf hF hF2 hG g at' (d + 4 * g + 9) t ρ P n T ht (by omega) hs hx
          obtain ⟨ρ2, P2, n2, T2, bb2, c1, c2, c3, c4, c5, c6⟩ := a_bind (f := f) (d := d + 3) hf hF hg ih (by omega) a2 a3 a6 he hz
          rw [show d + 4 * g + 9 + g + 5 = d + 5 * g + 14 by omega] at a1
          rw [show d + 3 + 5 * g + 11 = d + 5 * g + 14 by omega] at c1
          simp only [a1, am_i_some]
          rw [w_ob a4 0]
          simp only [hx_0 a2.w, Option.bind_some, c1, am_v_some]
          exact ⟨ρ2, P2, n2, T2, bb2, rfl, c2, c3, hp_fr.tr0 a4.ax c4, a5.tr c5, c6⟩
        · rw [if_neg e11] at he
          rw [if_neg e11]
          by_cases e12 : c = 12
          · rw [if_pos e12] at he
            rw [if_pos e12]
            obtain ⟨t, ht, he⟩ := Option.bind_eq_some_iff.mp he
            obtain ⟨e, hq, he⟩ := Option.bind_eq_some_iff.mp he
            obtain ⟨rfl, g1, g2⟩ := ax_q_eq hG hq
            obtain ⟨W1, b1, W2, h1, h2, rfl⟩ := ax_then_eq he
            obtain ⟨rfl, rfl⟩ := ax_put_eq h1
            obtain ⟨W3, b3, W4, h3, h4, rfl⟩ := ax_then_eq h2
            obtain ⟨ρ1, P1, v1, n1, T1, a1, a2, a3, a4, a5, a6⟩ := a_ty (f := f) hf hF hF2 hG g (at' + 1) (d + 4 * g + 9) t ρ P n T ht (by omega) hs hx
            obtain ⟨ρ2, P2, n2, T2, bb2, c1, c2, c3, c4, c5, c6⟩ := (s_equals (sa := sa) (f := f) (d := d + 5 * g + 10) a2 (by omega) a6 g1 g2 hg (fun z => hz (by simp only [List.length_append, List.length_cons, List.length_nil] at z ⊢; omega))).a a3 a2.y.1
            obtain ⟨ρ3, P3, n3, T3, bb3, d1, d2, d3, d4, d5, d6⟩ := ih (at' + 1) bn (d + 4) b1 b3 W3 ρ2 P2 n2 T2 _ bb2 h3 (by omega) c2 c3 (fun z => hz (by simp only [List.length_append, List.length_cons, List.length_nil] at z ⊢; omega))
            obtain ⟨ρ4, P4, n4, T4, bb4, e1, e2, e3, e4, e5, e6⟩ := ih sec bn (d + 4) b3 b' W4 ρ3 P3 n3 T3 _ bb3 h4 (by omega) d2 d3 (fun z => hz (by simp only [List.length_append, List.length_cons, List.length_nil] at z ⊢; omega))
            refine ⟨ρ4, P4, n4, T4, bb4, ?_, by simp only [List.append_assoc] at e2 ⊢; exact e2, e3, hp_fr.tr0 a4.ax (hp_fr.tr0 c4 (hp_fr.tr0 d4 e4)), a5.tr (c5.tr (d5.tr e5)), fun z => c6 (d6 (e6 z))⟩
            rw [show d + 4 * g + 9 + g + 5 = d + 5 * g + 14 by omega] at a1
            rw [show d + 4 + 5 * g + 10 = d + 5 * g + 14 by omega] at d1 e1
            rw [show d + 5 * g + 10 + 4 = d + 5 * g + 14 by omega] at c1
            simp only [ho_1 w, Option.bind_some, a1, am_i_some]
            rw [w_ob a4 0, w_ob a4 3]
            simp only [hx_3 a2.w, Option.bind_some, c1, am_v_some]
            rw [w_ob c4 0]
            simp only [hx_0 c2.w, Option.bind_some, d1, am_v_some]
            rw [w_ob d4 0]
            simp only [hx_0 d2.w, Option.bind_some, e1, am_v_some]
          · rw [if_neg e12] at he
            rw [if_neg e12]
            by_cases e13 : c = 13
            · rw [if_pos e13] at he
              rw [if_pos e13]
              obtain ⟨ρ1, P1, n1, T1, bb1, a1, a2⟩ := a_and (f := f) (d := d + 2) hf hF7 hG hg ih (by omega) hs hx he hz
              rw [show d + 2 + 5 * g + 12 = d + 5 * g + 14 by omega] at a1
              rw [a1, am_v_some]
              exact ⟨ρ1, P1, n1, T1, bb1, rfl, a2⟩
            · rw [if_neg e13] at he
              rw [if_neg e13]
              by_cases e14 : c = 14
              · rw [if_pos e14] at he
                rw [if_pos e14]
                obtain ⟨e, hq, he⟩ := Option.bind_eq_some_iff.mp he
                obtain ⟨rfl, g1, g2⟩ := ax_q_eq hG hq
                obtain ⟨W1, b1, W2, h1, h2, rfl⟩ := ax_then_eq he
                obtain ⟨rfl, rfl⟩ := ax_put_eq h1
                obtain ⟨W3, b3, W4, h3, h4, rfl⟩ := ax_then_eq h2
                obtain ⟨ρ2, P2, n2, T2, bb2, c1, c2, c3, c4, c5, c6⟩ := (s_equals (sa := sa) (f := f) (d := d + 5 * g + 10) hs (by omega) (Or.inl hs.y.B) g1 g2 hg (fun z => hz (by simp only [List.length_append, List.length_cons, List.length_nil] at z ⊢; omega))).a hx hs.y.1
                obtain ⟨ρ3, P3, n3, T3, bb3, d1, d2, d3, d4, d5, d6⟩ := a_and (f := f) (d := d + 2) hf hF7 hG hg ih (by omega) c2 c3 h3 (fun z => hz (by simp only [List.length_append, List.length_cons, List.length_nil] at z ⊢; omega))
                obtain ⟨ρ4, P4, n4, T4, bb4, e1, e2, e3, e4, e5, e6⟩ := ih (at' + 1) bn (d + 4) b3 b' W4 ρ3 P3 n3 T3 _ bb3 h4 (by omega) d2 d3 (fun z => hz (by simp only [List.length_append, List.length_cons, List.length_nil] at z ⊢; omega))
                refine ⟨ρ4, P4, n4, T4, bb4, ?_, by simp only [List.append_assoc] at e2 ⊢; exact e2, e3, hp_fr.tr0 c4 (hp_fr.tr0 d4 e4), c5.tr (d5.tr e5), fun z => c6 (d6 (e6 z))⟩
                rw [show d + 2 + 5 * g + 12 = d + 5 * g + 14 by omega] at d1
                rw [show d + 4 + 5 * g + 10 = d + 5 * g + 14 by omega] at e1
                rw [show d + 5 * g + 10 + 4 = d + 5 * g + 14 by omega] at c1
                simp only [ho_1 w, Option.bind_some, hx_3 w, c1, am_v_some]
                rw [w_ob c4 0]
                simp only [hx_0 c2.w, Option.bind_some, d1, am_v_some]
                rw [w_ob d4 0]
                simp only [hx_0 d2.w, Option.bind_some, e1, am_v_some]
              · rw [if_neg e14] at he
                rw [if_neg e14]
                by_cases e15 : c = 15
                · rw [if_pos e15] at he
                  rw [if_pos e15]
                  obtain ⟨ρ1, P1, n1, T1, bb1, a1, a2⟩ := a_all (f := f) (d := d + 2) hf hF hF7 hF2 hG hg ih (by omega) (by omega) (by omega) hs hx he hz
                  rw [show d + 2 + 5 * g + 12 = d + 5 * g + 14 by omega] at a1
                  rw [a1, am_v_some]
                  exact ⟨ρ1, P1, n1, T1, bb1, rfl, a2⟩
                · rw [if_neg e15] at he
                  rw [if_neg e15]
                  by_cases e16 : c = 16
                  · rw [if_pos e16] at he
                    rw [if_pos e16]
                    obtain ⟨ρ1, P1, n1, T1, bb1, a1, a2⟩ := a_ex (f := f) (d := d + 2) hf hF hF2 hG hg ih (by omega) (by omega) (by omega) hs hx he hz
                    rw [show d + 2 + 5 * g + 12 = d + 5 * g + 14 by omega] at a1
                    rw [a1, am_v_some]
                    exact ⟨ρ1, P1, n1, T1, bb1, rfl, a2⟩
                  · rw [if_neg e16] at he
                    rw [if_neg e16]
                    by_cases e5 : c < 5
                    · rw [if_pos e5] at he
                      obtain ⟨ρ1, P1, n1, T1, bb1, a1, a2⟩ := a_name (f := f) (d := d + 5 * g + 9) hf e5 (by omega) hs hx hg he hz
                      rw [show d + 5 * g + 9 + 5 = d + 5 * g + 14 by omega] at a1
                      rw [a1, am_v_some]
                      exact ⟨ρ1, P1, n1, T1, bb1, rfl, a2⟩
                    · rw [if_neg e5] at he; cases he
end AX5
