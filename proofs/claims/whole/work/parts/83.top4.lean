/-! TRACEJUDGE, the class: judge -/
/-- a run over the words: what is left, how many steps, where it stopped -/
def aJ : Nat → (qT → Prop) → sV → List Int32 → Nat → Nat → (qT → Prop) → sV → Nat → Int32 → Prop
  | 0, _, _, _, _, _, _, _, _, _ => False
  | g + 1, S, A, ws, a, acc, S', A', acc', flt =>
    (ws.length ≤ a ∧ S' = S ∧ A' = A ∧ acc' = acc ∧ flt = -1) ∨
    (a < ws.length ∧ ((∃ k L S1 A1, aN S A (ws.drop a) k L S1 A1 ∧ aJ g S1 A1 ws (a + L) (acc + if 10 ≤ k then 1 else 0) S' A' acc' flt) ∨ ((∀ k L S1 A1, ¬ aN S A (ws.drop a) k L S1 A1) ∧ S' = S ∧ A' = A ∧ acc' = acc ∧ flt = nI a)))
def aMu (A : sV) : Nat := A.1.length + A.2.2.2.2.2.1.length + A.2.2.2.2.2.2.length
theorem aE_mu {S S' : qT → Prop} {A A' : sV} {k : Nat} {ws : List Int32} (h : aE S A k ws S' A') : aMu A' ≤ aMu A + 2 := by
  unfold aMu
  rcases h with ⟨t, h1, h2, h3, h4⟩ | ⟨M, h1, h2, h3, h4⟩ | ⟨N, h1, h2, h3, h4⟩ | ⟨hk, N, h1, h2, h3, h4⟩ | ⟨hk, old, made, p, kk, h1, h2, h3, h4⟩ <;> rw [h4]
  · show A.1.length + (A.2.2.2.2.2.1 ++ [t]).length + A.2.2.2.2.2.2.length ≤ _
    rw [List.length_append, List.length_singleton]; omega
  · show A.1.length + A.2.2.2.2.2.1.length + (A.2.2.2.2.2.2 ++ [M]).length ≤ _
    rw [List.length_append, List.length_singleton]; omega
  · show (A.1 ++ [N]).length + A.2.2.2.2.2.1.length + A.2.2.2.2.2.2.length ≤ _
    rw [List.length_append, List.length_singleton]; omega
  · show (A.1 ++ [N]).length + A.2.2.2.2.2.1.length + A.2.2.2.2.2.2.length ≤ _
    rw [List.length_append, List.length_singleton]; omega
  · show (A.1 ++ [_, _]).length + A.2.2.2.2.2.1.length + A.2.2.2.2.2.2.length ≤ _
    rw [List.length_append, List.length_cons, List.length_singleton]; omega
/-- all roles of the class -/
def tp_S : Nat → Bool := fun r => decide (r < 900)
theorem hp_fr.tp {e : Nat} {ρ ρ' : hp_L} {P P' : hp_P} (h : hp_fr cw_S e ρ P ρ' P') : hp_fr tp_S e ρ P ρ' P' := h.weaken fun r h => by
  have : ¬ r < 900 := of_decide_eq_false h
  unfold cw_S
  rw [cl_8 (by omega), decide_eq_false (by omega)]
  rfl
section JU
variable {sa : Nat → Nat} {B : Nat} {ρ : hp_L} {P : hp_P} {n : Nat} {T : Nat → Int32 × Int32 × Int32} {C : sC} {S : qT → Prop} {th : Nat → (qT → Prop) × Nat × Nat} {ws : List Int32}
theorem cI.wf (h : cI B C ρ P n T) : aWf (cV C th) := by
  refine ⟨fun M hM => ?_, fun X hX => (h.2.2.2.2.1.2 X hX).1⟩
  obtain ⟨j, hj, e⟩ := List.mem_iff_getElem.mp hM
  exact (h.2.1.2.1.2.2 j M (List.getElem?_eq_some_iff.mpr ⟨hj, e⟩)).1
theorem saI.cg {P' : hp_P} (h : saI P ws) (h1 : P'.1 808 = P.1 808) (h2 : P'.2 807 = P.2 807) : saI P' ws := by
  unfold saI
  rw [h1, h2]
  exact h
theorem saI.fr {e : Nat} {ρ' : hp_L} {P' : hp_P} (h : saI P ws) (fr : hp_fr cw_S e ρ P ρ' P') : saI P' ws := h.cg (fr.2.1 808 rfl).1 (fr.2.1 807 rfl).2.1
/-- the class when ints of no invariant have changed -/
theorem cI.si {r : Nat} {v : Int32} (h : cI B C ρ P n T) (hr : r = 504 ∨ r = 505 ∨ r = 808 ∨ r = 809) : cI B C ρ (hp_sI P r v) n T := by
  obtain ⟨h1, h2, h3, h4, h5, h6, h7, h8⟩ := h
  have i : ∀ x, x ≠ 504 → x ≠ 505 → x < 808 → (hp_sI P r v).1 x = P.1 x := fun x a b c => hI_ne (by omega)
  exact ⟨h1, h2.cg (i 103 (by decide) (by decide) (by decide)) (i 111 (by decide) (by decide) (by decide)) fun _ _ _ => rfl, h3.cg (i 502 (by decide) (by decide) (by decide)) (i 503 (by decide) (by decide) (by decide)) rfl rfl, h4.cg fun x a b => ⟨i x (by omega) (by omega) (by omega), rfl⟩, h5, ⟨h6.1.cg (i 708 (by decide) (by decide) (by decide)) fun _ _ _ => rfl, h6.2⟩, h7.cg fun x a b => ⟨i x (by omega) (by omega) (by omega), rfl⟩, h8⟩
/-- judge's end after a fault -/
theorem t_exit {f : Nat} {cl : am_F} {x1 x2 x3 : Int32} (w : hp_w B ρ) (h : P.1 809 ≠ -1) (hf : 1 ≤ f) : am_go B sa am_dfl cl am_r108 f 11 [(0, .ref (ρ.1 8)), (1, .int x1), (2, .int x2), (3, .int x3)] [] (hp_S sa ρ P) = some (some (.int x1), hp_S sa ρ (hp_sI P 808 0)) := by
  obtain ⟨f, rfl⟩ : ∃ g, f = g + 1 := ⟨f - 1, by omega⟩
  rw [am_s108_11]
  have h' : (P.1 809 ≠ -1) = True := propext ⟨fun _ => True.intro, fun _ => h⟩
  simp only [hs_808 w, Option.bind_some, hg_808 w, hg_809 w, am_c_ne, h', if_true, ite_self]
/-- what judge leaves -/
def tJ (B : Nat) (sa : Nat → Nat) (g : Nat) (S : qT → Prop) (A : sV) (ws : List Int32) (a acc : Nat) (ρ : hp_L) (P : hp_P) (x : Option (Option Value × am_S)) : Prop :=
  ∃ S' A' acc' flt C' ρ' P' n' T', aJ g S A ws a acc S' A' acc' flt ∧ x = some (some (.int (nI acc')), hp_S sa ρ' P') ∧ cI B C' ρ' P' n' T' ∧ A' = cV C' A'.2.2.1 ∧ cR S' A'.2.2.1 C' n' T' ∧ aI S' A' ∧ stI sa ρ' P' ∧ saI P' [] ∧ P'.1 809 = flt ∧ hp_fr tp_S (ws.length - a + 2) ρ P ρ' P' ∧ aMu A' ≤ aMu A + (ws.length - a) ∧ acc' ≤ acc + (ws.length - a)
set_option maxHeartbeats 4000000 in
theorem t_loop {f0 d : Nat} (hf0 : 200000 ≤ f0) (h4 : ws.length ≤ 900) : ∀ (g : Nat) (S : qT → Prop) (th : Nat → (qT → Prop) × Nat × Nat) (C : sC) (ρ : hp_L) (P : hp_P) (n : Nat) (T : Nat → Int32 × Int32 × Int32) (a acc e f : Nat), cI B C ρ P n T → cR S th C n T → aI S (cV C th) → stI sa ρ P → saI P ws → P.1 809 = -1 → a ≤ ws.length → aMu (cV C th) + (ws.length - a) ≤ 900 → ws.length - a + 1 ≤ g → e ≤ a → g + 2 ≤ f →
    tJ B sa g S (cV C th) ws a acc ρ P (am_go B sa am_dfl (am_call B sa am_dfl am_tb f0 (d + 311)) am_r108 f 11 [(0, .ref (ρ.1 8)), (1, .int (nI acc)), (2, .int (nI a)), (3, .int (nI e))] [] (hp_S sa ρ P)) := by
  intro g
  induction g with
  | zero => intro S th C ρ P n T a acc e f h hR hI hst hs h9 ha hmu hg; omega
  | succ g ih =>
    intro S th C ρ P n T a acc e f h hR hI hst hs h9 ha hmu hg he hf
    have w := h.w
    obtain ⟨f, rfl⟩ : ∃ k, f = k + 1 := ⟨f - 1, by omega⟩
    rw [am_s108_11]
    simp only [am_c_ge, am_c_ne, hg_808 w, hg_809 w, hs.1, h9, Option.bind_some]
    rw [show (20000 : Int32) = nI 20000 from rfl, if_neg (nI_ge (a := e) (b := 20000) (by omega) (by omega))]
    by_cases e1 : ws.length ≤ a
    · rw [if_pos (nI_le e1 (by omega))]
      simp only [hs_808 w, Option.bind_some]
      refine ⟨S, cV C th, acc, -1, C, ρ, hp_sI P 808 0, n, T, Or.inl ⟨e1, rfl, rfl, rfl, rfl⟩, rfl, h.si (by omega), rfl, hR, hI, hst, ?_, by rw [hI_ne (by decide)]; exact h9, (hp_fr.sI (by decide)).up (by omega), by omega, by omega⟩
      exact ⟨hI_eq, Nat.zero_le _, hs.2.2.1, hs.2.2.2.1, fun j x hj => by cases hj⟩
    · rw [if_neg (nI_ge (by omega) (by omega)), if_neg (fun z => z rfl)]
      have hrem := sg_remember (sa := sa) (f := f0 - 1) (d := d + 310) (P := P) w
      rw [show f0 - 1 + 1 = f0 by omega] at hrem
      have hcR : hp_fr tp_S 0 ρ P ρ (hp_sI (hp_sI P 504 (P.1 502)) 505 (P.1 503)) := hp_fr.tr0 (hp_fr.sI (by decide)) (hp_fr.sI (by decide))
      have h1 : cI B C ρ (hp_sI (hp_sI P 504 (P.1 502)) 505 (P.1 503)) n T := (h.si (by omega)).si (by omega)
      have hst1 : stI sa ρ (hp_sI (hp_sI P 504 (P.1 502)) 505 (P.1 503)) := hst
      have hs1 : saI (hp_sI (hp_sI P 504 (P.1 502)) 505 (P.1 503)) ws := hs.cg (by rw [hI_ne (by decide), hI_ne (by decide)]) rfl
      have k4 : (hp_sI (hp_sI P 504 (P.1 502)) 505 (P.1 503)).1 504 = nI C.2.2.2.2.1.length := by rw [hI_ne (by decide), hI_eq]; exact h.2.2.1.1.1
      have k5 : (hp_sI (hp_sI P 504 (P.1 502)) 505 (P.1 503)).1 505 = nI C.2.2.2.2.2.1.length := by rw [hI_eq]; exact h.2.2.1.2.1
      have k9 : (hp_sI (hp_sI P 504 (P.1 502)) 505 (P.1 503)).1 809 = -1 := by rw [hI_ne (by decide), hI_ne (by decide)]; exact h9
      generalize hp_sI (hp_sI P 504 (P.1 502)) 505 (P.1 503) = P1 at *
      simp only [ho_800 w, hg_708 w, ho_804 w, hg_403 w, ho_801 w, hx_5 w, Option.bind_some, hrem, am_v_some, h.y.1.1.1.1.1, h.2.2.2.1.1, hx_8 w]
      obtain ⟨L, l1, l2⟩ := t_len (sa := sa) (f := f0) (d := d + 309) w h1.2.2.1 hst1 hs1 (show a < ws.length by omega) (by omega)
      rw [l1, am_i_some]
      -- the way back
      have back : ∀ {ρ2 : hp_L} {P2 : hp_P} {n2 : Nat} {T2 : Nat → Int32 × Int32 × Int32} (x2 : Int32), uI B C ρ2 P2 n2 T2 → hp_fr cw_S 2 ρ P1 ρ2 P2 → stI sa ρ2 P2 → ty_xt n T n2 T2 → (∀ k L S1 A1, ¬ aN S (cV C th) (ws.drop a) k L S1 A1) →
          tJ B sa (g + 1) S (cV C th) ws a acc ρ P ((am_put B (hp_S sa ρ2 P2) (ρ.1 8) 8 9 (.int (nI a))).bind fun g13 => (am_getr g13 (ρ.1 8) 8 4).bind fun p14 => (am_obj g13 p14 4).bind fun _ => am_v (am_call B sa am_dfl am_tb f0 (d + 311) 73 [.ref p14, .int (nI C.2.1.length)] g13) fun g15 => (am_getr g15 (ρ.1 8) 8 0).bind fun p16 => (am_obj g15 p16 7).bind fun _ => am_v (am_call B sa am_dfl am_tb f0 (d + 311) 7 [.ref p16, .int (nI n)] g15) fun g17 => (am_getr g17 (ρ.1 8) 8 1).bind fun p18 => (am_obj g17 p18 5).bind fun _ => am_v (am_call B sa am_dfl am_tb f0 (d + 311) 28 [.ref p18] g17) fun g19 => am_go B sa am_dfl (am_call B sa am_dfl am_tb f0 (d + 311)) am_r108 f 11 [(0, .ref (ρ.1 8)), (1, .int (nI acc)), (2, .int x2), (3, .int (nI e + 1))] [] g19) := by
        intro ρ2 P2 n2 T2 x2 hu fr hst2 xt hno
        have w2 := hu.1
        have o : ρ.1 8 = ρ2.1 8 := w_ob fr 8
        have hS2 : ct_S T2 n = S := by rw [ct_S_cg h.y.1.wf h.y.1.n31 (Nat.le_refl _) xt, hR.1]
        have hu9 : uI B C ρ2 (hp_sI P2 809 (nI a)) n2 T2 := by
          obtain ⟨u1, u2, u3, ⟨Q, th', u4, u5⟩, u6, u7, ⟨R, O, b, u8⟩, u9⟩ := hu
          have i : ∀ x, x < 808 → (hp_sI P2 809 (nI a)).1 x = P2.1 x := fun x c => hI_ne (by omega)
          exact ⟨u1, u2.cg (i 103 (by decide)) (i 111 (by decide)) fun _ _ _ => rfl, u3, ⟨Q, th', u4.cg fun x a b => ⟨i x (by omega), rfl⟩, u5⟩, u6, ⟨u7.1.cg (i 708 (by decide)) fun _ _ _ => rfl, u7.2⟩, ⟨R, O, b, u8.cg fun x a b => ⟨i x (by omega), rfl⟩⟩, u9⟩
        obtain ⟨Pa, Pb, Pc, b1, b2, b3, b4, b5⟩ := u_undo (sa := sa) (f := f0) (d := d + 309) hu9 xt.1 h.y.2.1 (by rw [hS2]; exact hI.1) (fun M hM => by rw [hS2]; exact em_S hI h.wf hM) (by rw [hI_ne (by decide), (fr.2.1 504 rfl).1]; exact k4) (by rw [hI_ne (by decide), (fr.2.1 505 rfl).1]; exact k5) h.2.2.1.1.2.1 h.2.2.1.1.2.2.1 h.2.2.1.2.2.1 h.2.2.1.2.2.2.1 h.2.2.2.1.2.2.1 (by omega)
        have c9 : Pc.1 809 = nI a := by rw [(b5.2.1 809 rfl).1, hI_eq]
        have fin := t_exit (sa := sa) (cl := am_call B sa am_dfl am_tb f0 (d + 311)) (f := f) (x1 := nI acc) (x2 := x2) (x3 := nI e + 1) w2 (P := Pc) (by rw [c9]; exact nI_ne_m1 (by omega)) (by omega)
        rw [o]
        simp only [hs_809 w2, Option.bind_some, ho_804 w2, hx_4 w2, b1, am_v_some, ho_800 w2, hx_7 w2, b2, ho_801 w2, hx_5 w2, b3, fin]
        have frc : hp_fr tp_S 2 ρ P ρ2 (hp_sI Pc 808 0) := by
          have := ((hcR.tr fr.tp).tr ((hp_fr.sI (S := tp_S) (r := 809) (v := nI a) (by decide)).tr (b5.cw.tp.tr (hp_fr.sI (S := tp_S) (r := 808) (v := 0) (by decide)))))
          exact this.up (by omega)
        refine ⟨S, cV C th, acc, nI a, C, ρ2, hp_sI Pc 808 0, n, T2, Or.inr ⟨by omega, Or.inr ⟨hno, rfl, rfl, rfl, rfl⟩⟩, rfl, b4.si (by omega), rfl, ⟨hS2.symm, fun j j1 j2 => ?_⟩, hI, ?_, ?_, by rw [hI_ne (by decide)]; exact c9, frc.up (by omega), by omega, by omega⟩
        · have := hR.old (n' := n) h.y.1.wf h.y.1.n31 ⟨Nat.le_refl _, fun j hj => xt.2 j hj⟩ j1 j2
          exact this
        · have z := hst2.cl (P := hp_sI P2 809 (nI a)) b5
          exact z
        · have z := (hs1.fr fr)
          exact ⟨hI_eq, Nat.zero_le _, by rw [hI_A, (b5.2.1 807 rfl).2.1]; exact z.2.2.1, by rw [hI_A, (b5.2.1 807 rfl).2.1]; exact z.2.2.2.1, fun j x hj => by cases hj⟩
      rcases l2 with ⟨l2, k, l3, l4, l5, l6⟩ | ⟨l2, l3⟩
      · have hL := aL_ge l5
        have l6' := l6
        rw [List.length_drop] at l6'
        simp only [am_c_eq]
        rw [if_neg (nI_ne0 l2 (by omega))]
        simp only [hx_8 w, Option.bind_some]
        have hmu' : C.2.1.length + C.2.2.2.2.2.2.1.length + C.2.2.2.2.2.2.2.length + (ws.length - a) ≤ 900 := hmu
        have acc1 := t_acc (sa := sa) (f := f0) (d := d) h1 hR hst1 hs1 hI h.wf (by omega) (by omega) (by omega) hf0 l3 l4 l5 l6
        rcases acc1 with ⟨S', A', C', ρ', P', n', T', c1, c2, c3, c4, c5, c6, c7⟩ | ⟨c1, ρ', P', n', T', c2, c3, c4, c5, c6⟩
        · rw [c2, am_i_some]
          rw [if_pos (by decide)]
          have w' := c3.w
          have o : ρ.1 8 = ρ'.1 8 := w_ob c6 8
          have hs' := hs1.fr c6
          have hrd : hp_rd P' 807 (nI a) = some (nI k) := by
            rw [hs'.rd (show a < ws.length by omega)]
            rw [List.getElem?_drop, Nat.add_zero, List.getElem?_eq_getElem (by omega)] at l3
            exact l3
          have hI' : aI S' A' := aE_nx hI h.wf c1
          have mu := aE_mu c1
          rw [c4] at hI' mu
          have step : ∀ acc', acc' = acc + (if 10 ≤ k then 1 else 0) → tJ B sa (g + 1) S (cV C th) ws a acc ρ P (am_go B sa am_dfl (am_call B sa am_dfl am_tb f0 (d + 311)) am_r108 f 11 [(0, .ref (ρ'.1 8)), (1, .int (nI acc')), (2, .int (nI (a + L))), (3, .int (nI (e + 1)))] [] (hp_S sa ρ' P')) := by
            intro acc' hacc
            obtain ⟨S2, A2, ac2, flt, C2, ρ2, P2, n2, T2, d1, d2, d3, d4, d5, d6, d7, d8, d9, d10, d11, d12⟩ := ih S' A'.2.2.1 C' ρ' P' n' T' (a + L) acc' (e + 1) f c3 c5 hI' c7 hs' (by rw [(c6.2.1 809 rfl).1]; exact k9) (by omega) (by omega) (by omega) (by omega) (by omega)
            refine ⟨S2, A2, ac2, flt, C2, ρ2, P2, n2, T2, Or.inr ⟨by omega, Or.inl ⟨k, L, S', A', ⟨l3, l4, l5, l6, c1⟩, ?_⟩⟩, d2, d3, d4, d5, d6, d7, d8, d9, ?_, by omega, ?_⟩
            · rw [← hacc, c4]; exact d1
            · exact ((hcR.tr c6.tp).tr d10).up (by omega)
            · rw [hacc] at d12; split at d12 <;> omega
          rw [o]
          simp only [hr_807 w', hl_807 w', hrd, Option.bind_some, am_c_lt]
          rw [show (10 : Int32) = nI 10 from rfl]
          by_cases e10 : k < 10
          · rw [if_pos (nI_lt e10 (by omega)), nI_add, nI_1]
            exact step acc (by rw [if_neg (by omega)]; rfl)
          · rw [if_neg (nI_nlt (by omega) (by omega)), nI_add, nI_1, nI_1]
            exact step (acc + 1) (by rw [if_pos (by omega)])
        · rw [c2, am_i_some]
          rw [if_neg (fun z => z rfl)]
          exact back _ c3 c4 c5 c6 fun k' L' S1 A1 ⟨z1, z2, z3, z4, z5⟩ => by
            rw [l3] at z1
            have := (nI_eq (by omega) (by omega)).mp (Option.some.inj z1)
            subst this
            exact c1 _ _ z5
      · simp only [am_c_eq, l2]
        rw [if_pos nI_0]
        exact back _ h1.u (hp_fr.rf.up (by omega)) hst1 ty_xt.rf fun k' L' S1 A1 ⟨z1, z2, z3, z4, z5⟩ => l3 k' L' z1 z2 z3 z4
end JU
